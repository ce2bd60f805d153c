/-! TOKENS -/
def bt (B : Int → Int) (sz k : Int) : Int := if sz ≤ k then -1 else B k % 256
def tSkF (B : Int → Int) : Nat → Int → Int
  | 0, p => p
  | n + 1, p => if B p % 256 = 32 ∨ B p % 256 = 10 then tSkF B n (p + 1) else p
def tSk (B : Int → Int) (sz p : Int) : Int := tSkF B (sz - p).toNat p
def tDgF (B : Int → Int) : Nat → Int → Int
  | 0, p => p
  | n + 1, p => if 48 ≤ B p % 256 ∧ B p % 256 ≤ 57 then tDgF B n (p + 1) else p
def tDg (B : Int → Int) (sz p : Int) : Int := tDgF B (sz - p).toNat p
/-- the value of the first four digits -/
def tV (B : Int → Int) (b : Int) : Nat → Int
  | 0 => 0
  | m + 1 => if m < 4 then 10 * tV B b m + B (b + m) % 256 - 48 else tV B b m
/-- begin, next, token, value -/
def gst (f : Int → Int) (b nx tk vl : Int) : Int → Int := fun s => if s = 16 then b else if s = 17 then nx else if s = 18 then tk else if s = 19 then vl else f s
theorem gst_16 (f : Int → Int) (b nx tk vl v : Int) : (fun j => if j = 16 then v else gst f b nx tk vl j) = gst f v nx tk vl := by
  funext j
  unfold gst
  by_cases h : j = 16
  · rw [if_pos h, if_pos h]
  · rw [if_neg h, if_neg h, if_neg h]
theorem gst_17 (f : Int → Int) (b nx tk vl v : Int) : (fun j => if j = 17 then v else gst f b nx tk vl j) = gst f b v tk vl := by
  funext j
  unfold gst
  by_cases h : j = 17
  · rw [if_pos h, if_neg (by omega), if_pos h]
  · rw [if_neg h]
    by_cases h6 : j = 16
    · rw [if_pos h6, if_pos h6]
    · rw [if_neg h6, if_neg h6, if_neg h, if_neg h]
theorem gst_18 (f : Int → Int) (b nx tk vl v : Int) : (fun j => if j = 18 then v else gst f b nx tk vl j) = gst f b nx v vl := by
  funext j
  unfold gst
  by_cases h : j = 18
  · rw [if_pos h, if_neg (by omega), if_neg (by omega), if_pos h]
  · rw [if_neg h]
    by_cases h6 : j = 16
    · rw [if_pos h6, if_pos h6]
    · rw [if_neg h6, if_neg h6]
      by_cases h7 : j = 17
      · rw [if_pos h7, if_pos h7]
      · rw [if_neg h7, if_neg h7, if_neg h, if_neg h]
theorem gst_19 (f : Int → Int) (b nx tk vl v : Int) : (fun j => if j = 19 then v else gst f b nx tk vl j) = gst f b nx tk v := by
  funext j
  unfold gst
  by_cases h : j = 19
  · rw [if_pos h, if_neg (by omega), if_neg (by omega), if_neg (by omega), if_pos h]
  · rw [if_neg h]
    by_cases h6 : j = 16
    · rw [if_pos h6, if_pos h6]
    · rw [if_neg h6, if_neg h6]
      by_cases h7 : j = 17
      · rw [if_pos h7, if_pos h7]
      · rw [if_neg h7, if_neg h7]
        by_cases h8 : j = 18
        · rw [if_pos h8, if_pos h8]
        · rw [if_neg h8, if_neg h8, if_neg h, if_neg h]
theorem gst_self (f : Int → Int) : gst f (f 16) (f 17) (f 18) (f 19) = f := by
  funext j
  unfold gst
  by_cases h6 : j = 16
  · rw [if_pos h6, h6]
  · rw [if_neg h6]
    by_cases h7 : j = 17
    · rw [if_pos h7, h7]
    · rw [if_neg h7]
      by_cases h8 : j = 18
      · rw [if_pos h8, h8]
      · rw [if_neg h8]
        by_cases h9 : j = 19
        · rw [if_pos h9, h9]
        · rw [if_neg h9]
def tok (f B : Int → Int) : Int → Int :=
  if f 15 ≤ tSk B (f 15) (f 17) then gst f (tSk B (f 15) (f 17)) (tSk B (f 15) (f 17)) 0 (f 19)
  else if 48 ≤ B (tSk B (f 15) (f 17)) % 256 ∧ B (tSk B (f 15) (f 17)) % 256 ≤ 57 then gst f (tSk B (f 15) (f 17)) (tDg B (f 15) (tSk B (f 15) (f 17))) 1 (tV B (tSk B (f 15) (f 17)) (tDg B (f 15) (tSk B (f 15) (f 17)) - tSk B (f 15) (f 17)).toNat)
  else gst f (tSk B (f 15) (f 17)) (tSk B (f 15) (f 17) + 1) 2 (B (tSk B (f 15) (f 17)) % 256)
section MTO
variable {d : Nat} {z : cm_Z} {I : cm_I}
theorem s_byteAt (hz : mz z) {k : Int} (h0 : 0 ≤ k) (h1 : I 209 15 ≤ 400) : mI (d + 1) m_Model_byteAt [vR 12 209, vI k] z I fun r I1 => I1 = I ∧ r = bt (I 219) (I 209 15) k := by
  refine mr_byteAt hz ⟨fun q => qI_mk ⟨rfl, ?_⟩, fun q => ⟨⟨by omega, by omega⟩, qI_mk ⟨rfl, ?_⟩⟩⟩
  · unfold bt; rw [if_pos q]
  · unfold bt; rw [if_neg (by omega)]; rfl
theorem s_go (hz : mz z) (h0 : 0 ≤ I 209 17) (h1 : I 209 15 ≤ 400) (h2 : I 209 17 ≤ 400) : mU (d + 2) m_Model_go [vR 12 209] z I fun I1 => I1 = iw I 209 (tok (I 209) (I 219)) := by
  refine mr_go hz ?_
  have rd : ∀ (b nx tk vl : Int) (I0 : cm_I), I0 = iw I 209 (gst (I 209) b nx tk vl) → I0 209 15 = I 209 15 ∧ I0 209 16 = b ∧ I0 209 17 = nx ∧ I0 209 19 = vl ∧ I0 219 = I 219 := by
    intro b nx tk vl I0 e
    refine ⟨?_, ?_, ?_, ?_, by rw [e, iw_ne _ _ (by decide)]⟩ <;> rw [e, iw_at] <;> rfl
  have k89 : ∀ (m : Nat) (q p : Int) (I0 : cm_I) (z1 : Option cm_V), (I 209 15 - p).toNat = m → 0 ≤ q → q ≤ p → p ≤ 401 → I0 = iw I 209 (gst (I 209) q p 1 (tV (I 219) q (p - q).toNat)) → (0 ≤ tV (I 219) q (p - q).toNat ∧ tV (I 219) q (p - q).toNat ≤ 9999 ∧ (p - q < 4 → tV (I 219) q (p - q).toNat ≤ 999) ∧ (p - q < 3 → tV (I 219) q (p - q).toNat ≤ 99) ∧ (p - q < 2 → tV (I 219) q (p - q).toNat ≤ 9) ∧ (p - q < 1 → tV (I 219) q (p - q).toNat = 0)) → iw I 209 (gst (I 209) q (tDg (I 219) (I 209 15) p) 1 (tV (I 219) q (tDg (I 219) (I 209 15) p - q).toNat)) = iw I 209 (tok (I 209) (I 219)) → cw (d + 1) cd_Model_go (qU z fun I1 => I1 = iw I 209 (tok (I 209) (I 219))) 89 [some (vR 12 209), z1] [] (I0, z) := by
    intro m
    induction m with
    | zero =>
      intro q p I0 z1 em q0 qp p1 e hv fin
      obtain ⟨r15, r16, r17, r19, rB⟩ := rd _ _ _ _ I0 e
      refine mr_go_89 hz (mI_mono (s_byteAt hz (by omega) (by omega)) fun v2 I1 ⟨e1, ev⟩ => ?_)
      rw [e1]
      rw [r17, r15] at ev
      have ev1 : v2 = -1 := by rw [ev]; unfold bt; rw [if_pos (by omega)]
      refine mI_mono (s_within hz v2 48 57) fun v4 I3 ⟨e3, ev4⟩ => ?_
      rw [e3]
      rw [if_neg (by omega)] at ev4
      refine ⟨fun _ => qU_mk ?_, fun q => absurd ev4 q⟩
      rw [← fin, e]
      have : tDg (I 219) (I 209 15) p = p := by unfold tDg; rw [em]; rfl
      rw [this]
    | succ m ih =>
      intro q p I0 z1 em q0 qp p1 e hv fin
      obtain ⟨r15, r16, r17, r19, rB⟩ := rd _ _ _ _ I0 e
      refine mr_go_89 hz (mI_mono (s_byteAt hz (by omega) (by omega)) fun v2 I1 ⟨e1, ev⟩ => ?_)
      rw [e1]
      rw [r17, r15, rB] at ev
      have ev1 : v2 = I 219 p % 256 := by rw [ev]; unfold bt; rw [if_neg (by omega)]
      refine mI_mono (s_within hz v2 48 57) fun v4 I3 ⟨e3, ev4⟩ => ?_
      rw [e3]
      have hdg : tDg (I 219) (I 209 15) p = if 48 ≤ I 219 p % 256 ∧ I 219 p % 256 ≤ 57 then tDg (I 219) (I 209 15) (p + 1) else p := by
        unfold tDg
        rw [em, show (I 209 15 - (p + 1)).toNat = m by omega]
        rfl
      by_cases hd : 48 ≤ v2 ∧ v2 ≤ 57
      · rw [if_pos hd] at ev4
        rw [if_pos (by omega)] at hdg
        rw [hdg] at fin
        refine ⟨fun q => by omega, fun _ => ?_⟩
        rw [r17, r16, r19]
        have et : (p + 1 - q).toNat = (p - q).toNat + 1 := by omega
        have ep : q + ((p - q).toNat : Int) = p := by omega
        refine ⟨⟨by omega, by omega⟩, fun h4 I6 e6 => ?_, fun h4 => ⟨⟨by omega, by omega⟩, mI_mono (s_byteAt hz (by omega) (by omega)) fun v11 I10 ⟨e10, ev11⟩ => ?_⟩⟩
        · have ev6 : I6 = iw I 209 (gst (I 209) q p 1 (tV (I 219) q (p - q).toNat)) := by
            rw [e6, e, iu_iw, gst_19]
          obtain ⟨s15, s16, s17, s19, sB⟩ := rd _ _ _ _ I6 ev6
          rw [s17]
          have etv : tV (I 219) q (p + 1 - q).toNat = tV (I 219) q (p - q).toNat := by
            rw [et, tV, if_neg (by omega)]
          refine ⟨⟨by omega, by omega⟩, fun I8 e8 => ih q (p + 1) I8 _ (by omega) q0 (by omega) (by omega) ?_ ?_ fin⟩
          · rw [e8, ev6, iu_iw, gst_17, etv]
          · rw [etv]
            omega
        · rw [e10]
          rw [r15, rB] at ev11
          have ev12 : v11 = I 219 p % 256 := by rw [ev11]; unfold bt; rw [if_neg (by omega)]
          have etv : tV (I 219) q (p + 1 - q).toNat = 10 * tV (I 219) q (p - q).toNat + v11 - 48 := by
            rw [et, tV, if_pos (by omega), ep, ev12]
          refine ⟨⟨by omega, by omega⟩, ⟨by omega, by omega⟩, fun I14 e14 => ?_⟩
          have ev14 : I14 = iw I 209 (gst (I 209) q p 1 (10 * tV (I 219) q (p - q).toNat + v11 - 48)) := by
            rw [e14, e, iu_iw, gst_19]
          obtain ⟨s15, s16, s17, s19, sB⟩ := rd _ _ _ _ I14 ev14
          rw [s17]
          refine ⟨⟨by omega, by omega⟩, fun I16 e16 => ih q (p + 1) I16 _ (by omega) q0 (by omega) (by omega) ?_ ?_ fin⟩
          · rw [e16, ev14, iu_iw, gst_17, etv]
          · rw [etv]
            omega
      · rw [if_neg hd] at ev4
        rw [if_neg (by omega)] at hdg
        refine ⟨fun _ => qU_mk ?_, fun q => absurd ev4 q⟩
        rw [← fin, e, hdg]
  have k0 : ∀ (m : Nat) (p : Int) (I0 : cm_I) (z1 : Option cm_V), (I 209 15 - p).toNat = m → 0 ≤ p → p ≤ 400 → tSk (I 219) (I 209 15) p = tSk (I 219) (I 209 15) (I 209 17) → I0 = iw I 209 (gst (I 209) (I 209 16) p (I 209 18) (I 209 19)) → cw (d + 1) cd_Model_go (qU z fun I1 => I1 = iw I 209 (tok (I 209) (I 219))) 0 [some (vR 12 209), z1] [] (I0, z) := by
    intro m
    induction m with
    | zero =>
      intro p I0 z1 em p0 p1 hsk e
      obtain ⟨r15, r16, r17, r19, rB⟩ := rd _ _ _ _ I0 e
      have esk : tSk (I 219) (I 209 15) (I 209 17) = p := by rw [← hsk]; unfold tSk; rw [em]; rfl
      have hb : bt (I 219) (I 209 15) p = -1 := by unfold bt; rw [if_pos (by omega)]
      refine mr_go_0 hz (mI_mono (s_byteAt hz (by omega) (by omega)) fun v2 I1 ⟨e1, ev⟩ => ?_)
      rw [e1]
      rw [r17, r15, rB, hb] at ev
      refine ⟨fun q => by omega, fun _ => mI_mono (s_byteAt hz (by omega) (by omega)) fun v6 I5 ⟨e5, ev6⟩ => ?_⟩
      rw [e5]
      rw [r17, r15, rB, hb] at ev6
      refine ⟨fun _ I7 e7 => ?_, fun q => by omega⟩
      have ev7 : I7 = iw I 209 (gst (I 209) p p (I 209 18) (I 209 19)) := by rw [e7, r17, e, iu_iw, gst_16]
      obtain ⟨s15, s16, s17, s19, sB⟩ := rd _ _ _ _ I7 ev7
      refine mI_mono (s_byteAt hz (by omega) (by omega)) fun v9 I8 ⟨e8, ev9⟩ => ?_
      rw [e8]
      rw [s17, s15, sB, hb] at ev9
      refine ⟨fun q => by omega, fun _ I18 e18 => qU_mk ?_⟩
      rw [e18, ev7, iu_iw, gst_18]
      unfold tok
      rw [esk, if_pos (by omega)]
    | succ m ih =>
      intro p I0 z1 em p0 p1 hsk e
      obtain ⟨r15, r16, r17, r19, rB⟩ := rd _ _ _ _ I0 e
      have hb : bt (I 219) (I 209 15) p = I 219 p % 256 := by unfold bt; rw [if_neg (by omega)]
      have hst : tSk (I 219) (I 209 15) p = if I 219 p % 256 = 32 ∨ I 219 p % 256 = 10 then tSk (I 219) (I 209 15) (p + 1) else p := by
        unfold tSk
        rw [em, show (I 209 15 - (p + 1)).toNat = m by omega]
        rfl
      refine mr_go_0 hz (mI_mono (s_byteAt hz (by omega) (by omega)) fun v2 I1 ⟨e1, ev⟩ => ?_)
      rw [e1]
      rw [r17, r15, rB, hb] at ev
      have again : (I 219 p % 256 = 32 ∨ I 219 p % 256 = 10) → ∀ I4 : cm_I, I4 = iu I0 209 17 (I0 209 17 + 1) → cw (d + 1) cd_Model_go (qU z fun I1 => I1 = iw I 209 (tok (I 209) (I 219))) 0 [some (vR 12 209), z1] [] (I4, z) := by
        intro h I4 e4
        rw [if_pos h] at hst
        refine ih (p + 1) I4 _ (by omega) (by omega) (by omega) (by rw [← hst]; exact hsk) ?_
        rw [e4, r17, e, iu_iw, gst_17]
      refine ⟨fun q => ⟨⟨by omega, by omega⟩, again (Or.inl (by omega))⟩, fun q32 => mI_mono (s_byteAt hz (by omega) (by omega)) fun v6 I5 ⟨e5, ev6⟩ => ?_⟩
      rw [e5]
      rw [r17, r15, rB, hb] at ev6
      refine ⟨fun q10 I7 e7 => ?_, fun q => ⟨⟨by omega, by omega⟩, again (Or.inr (by omega))⟩⟩
      rw [if_neg (by omega)] at hst
      have esk : tSk (I 219) (I 209 15) (I 209 17) = p := by rw [← hsk, hst]
      have ev7 : I7 = iw I 209 (gst (I 209) p p (I 209 18) (I 209 19)) := by rw [e7, r17, e, iu_iw, gst_16]
      obtain ⟨s15, s16, s17, s19, sB⟩ := rd _ _ _ _ I7 ev7
      refine mI_mono (s_byteAt hz (by omega) (by omega)) fun v9 I8 ⟨e8, ev9⟩ => ?_
      rw [e8]
      rw [s17, s15, sB, hb] at ev9
      refine ⟨fun _ => mI_mono (s_within hz v9 48 57) fun v11 I10 ⟨e10, ev11⟩ => ?_, fun q => by omega⟩
      rw [e10]
      refine ⟨fun q I12 e12 I13 e13 => ?_, fun q I16 e16 I17 e17 => ?_⟩
      · have hd : ¬ (48 ≤ v9 ∧ v9 ≤ 57) := by intro h; rw [if_pos h] at ev11; omega
        have ev13 : I13 = iw I 209 (gst (I 209) p p 2 v9) := by rw [e13, e12, ev7, iu_iw, gst_18, iu_iw, gst_19]
        obtain ⟨t15, t16, t17, t19, tB⟩ := rd _ _ _ _ I13 ev13
        rw [t17]
        refine ⟨⟨by omega, by omega⟩, fun I15 e15 => qU_mk ?_⟩
        rw [e15, ev13, iu_iw, gst_17]
        unfold tok
        rw [esk, if_neg (by omega), if_neg (by rw [← ev9]; exact hd), ev9]
      · have hd : 48 ≤ v9 ∧ v9 ≤ 57 := by
          apply Classical.byContradiction
          intro h
          rw [if_neg h] at ev11
          exact q ev11
        have z0 : tV (I 219) p (p - p).toNat = 0 := by rw [show (p - p).toNat = 0 by omega]; rfl
        refine k89 _ p p I17 _ rfl p0 (by omega) (by omega) ?_ (by rw [z0]; omega) ?_
        · rw [e17, e16, ev7, iu_iw, gst_18, iu_iw, gst_19, z0]
        · unfold tok
          rw [esk, if_neg (by omega), if_pos (by rw [← ev9]; exact hd)]
  refine k0 _ (I 209 17) I _ rfl h0 h2 rfl ?_
  rw [gst_self, iw_self]
end MTO
