/-! THE TAPE, tokens -/
def bOf (v s : Int) : Int := ((v / 2 ^ (Int.toNat s)) + 128) % 256 - 128
def putF (f : Int → Int) (p v : Int) : Int → Int := fun j => if j = p then bOf v 24 else if j = p + 1 then bOf v 16 else if j = p + 2 then bOf v 8 else if j = p + 3 then bOf v 0 else f j
theorem bOf_bd (v s : Int) : -128 ≤ bOf v s ∧ bOf v s ≤ 127 := by unfold bOf; omega
def iPut (I : cm_I) (b : Int) : cm_I := iu (iu I 219 (I 209 14) b) 209 14 (I 209 14 + 1)
theorem iPut_at (I : cm_I) (b : Int) : iPut I b 209 14 = I 209 14 + 1 ∧ iPut I b 219 = (fun j => if j = I 209 14 then b else I 219 j) ∧ (∀ s, s ≠ 14 → iPut I b 209 s = I 209 s) ∧ ∀ a, a ≠ 209 → a ≠ 219 → iPut I b a = I a := by
  unfold iPut
  refine ⟨by rw [iu_at]; exact if_pos rfl, by rw [iu_ne _ _ _ (by decide), iu_at], fun s hs => ?_, fun a h1 h2 => by rw [iu_ne _ _ _ h1, iu_ne _ _ _ h2]⟩
  rw [iu_at]
  show (if s = 14 then _ else _) = _
  rw [if_neg hs, iu_ne _ _ _ (by decide)]
/-- so much is put -/
def iFed (I : cm_I) (v : Int) : cm_I := iu (iw I 219 (putF (I 219) (I 209 14) v)) 209 14 (I 209 14 + 4)
theorem iFed_eq (I : cm_I) (v : Int) : iPut (iPut (iPut (iPut I (bOf v 24)) (bOf v 16)) (bOf v 8)) (bOf v 0) = iFed I v := by
  obtain ⟨a1, a2, a3, a4⟩ := iPut_at I (bOf v 24)
  obtain ⟨b1, b2, b3, b4⟩ := iPut_at (iPut I (bOf v 24)) (bOf v 16)
  obtain ⟨c1, c2, c3, c4⟩ := iPut_at (iPut (iPut I (bOf v 24)) (bOf v 16)) (bOf v 8)
  obtain ⟨d1, d2, d3, d4⟩ := iPut_at (iPut (iPut (iPut I (bOf v 24)) (bOf v 16)) (bOf v 8)) (bOf v 0)
  funext a
  by_cases h1 : a = 209
  · subst h1
    funext s
    unfold iFed
    rw [iu_at]
    by_cases hs : s = 14
    · rw [hs, d1, c1, b1, a1]
      show _ = if (14 : Int) = 14 then _ else _
      rw [if_pos rfl]
      omega
    · rw [d3 s hs, c3 s hs, b3 s hs, a3 s hs]
      show _ = if s = 14 then _ else _
      rw [if_neg hs, iw_ne _ _ (by decide)]
  · by_cases h2 : a = 219
    · subst h2
      unfold iFed
      rw [iu_ne _ _ _ (by decide), iw_at, d2, c2, b2, a2, c1, b1, a1]
      funext j
      unfold putF
      dsimp only
      by_cases e0 : j = I 209 14 + 1 + 1 + 1
      · rw [if_pos e0, if_neg (by omega), if_neg (by omega), if_neg (by omega), if_pos (by omega)]
      · rw [if_neg e0]
        by_cases e1 : j = I 209 14 + 1 + 1
        · rw [if_pos e1, if_neg (by omega), if_neg (by omega), if_pos (by omega)]
        · rw [if_neg e1]
          by_cases e2 : j = I 209 14 + 1
          · rw [if_pos e2, if_neg (by omega), if_pos (by omega)]
          · rw [if_neg e2]
            by_cases e3 : j = I 209 14
            · rw [if_pos e3, if_pos e3]
            · rw [if_neg e3, if_neg e3, if_neg (by omega), if_neg (by omega), if_neg (by omega)]
    · rw [d4 a h1 h2, c4 a h1 h2, b4 a h1 h2, a4 a h1 h2]
      unfold iFed
      rw [iu_ne _ _ _ h1, iw_ne _ _ h2]
theorem iFed_at (I : cm_I) (v : Int) : iFed I v 209 14 = I 209 14 + 4 := by unfold iFed; rw [iu_at]; exact if_pos rfl
section MTA
variable {d : Nat} {z : cm_Z} {I : cm_I}
theorem s_puts (hz : mz z) (v : Int) (h0 : 0 ≤ I 209 14) (h1 : I 209 14 + 4 ≤ 400) : mU (d + 1) m_Model_puts [vR 12 209, vI v] z I fun I1 => I1 = iFed I v := by
  refine mr_puts hz ?_
  have stp : ∀ (s : Int) (I0 : cm_I), 0 ≤ s → s < 32 → 0 ≤ I0 209 14 → I0 209 14 < 400 → cw d cd_Model_puts (qU z fun I1 => I1 = iFed I v) 3 [some (vR 12 209), some (vI v), some (vI (s + (-8)))] [] (iPut I0 (bOf v s), z) → cw d cd_Model_puts (qU z fun I1 => I1 = iFed I v) 3 [some (vR 12 209), some (vI v), some (vI s)] [] (I0, z) := by
    intro s I0 s0 s1 t0 t1 k
    have bb := bOf_bd v s
    refine mr_puts_3 hz ⟨fun q => by omega, fun q => ⟨⟨s0, s1⟩, ⟨t0, t1⟩, bb, fun I4 e4 => ?_⟩⟩
    have e9 : I4 209 14 = I0 209 14 := by rw [e4, iu_ne _ _ _ (by decide)]
    rw [e9]
    refine ⟨⟨by omega, by omega⟩, fun I6 e6 => ⟨⟨by omega, by omega⟩, ?_⟩⟩
    have : I6 = iPut I0 (bOf v s) := by rw [e6, e4]; rfl
    rw [this]
    exact k
  have a1 := (iPut_at I (bOf v 24)).1
  have b1 := (iPut_at (iPut I (bOf v 24)) (bOf v 16)).1
  have c1 := (iPut_at (iPut (iPut I (bOf v 24)) (bOf v 16)) (bOf v 8)).1
  refine stp 24 I (by omega) (by omega) (by omega) (by omega) ?_
  refine stp 16 _ (by omega) (by omega) (by omega) (by omega) ?_
  refine stp 8 _ (by omega) (by omega) (by omega) (by omega) ?_
  refine stp 0 _ (by omega) (by omega) (by omega) (by omega) ?_
  exact mr_puts_3 hz ⟨fun _ => qU_mk (iFed_eq I v), fun q => by omega⟩
theorem s_feed (hz : mz z) (a b c e f : Int) (h0 : 0 ≤ I 209 14) (h1 : I 209 14 ≤ 400) : mI (d + 2) m_Model_feed [vR 12 209, vI a, vI b, vI c, vI e, vI f] z I fun r I1 => if I 209 14 + 20 ≤ 400 then I1 = iFed (iFed (iFed (iFed (iFed (iu I 209 0 0) a) b) c) e) f ∧ r = I 209 14 + 20 else I1 = iu I 209 0 0 ∧ r = -1 := by
  refine mr_feed hz fun I1 e1 => ?_
  have e14 : I1 209 14 = I 209 14 := by rw [e1, iu_at]; rfl
  rw [e14]
  refine ⟨⟨by omega, by omega⟩, fun q => ?_, fun q => qI_mk ?_⟩
  · have x1 := iFed_at I1 a
    have x2 := iFed_at (iFed I1 a) b
    have x3 := iFed_at (iFed (iFed I1 a) b) c
    have x4 := iFed_at (iFed (iFed (iFed I1 a) b) c) e
    have x5 := iFed_at (iFed (iFed (iFed (iFed I1 a) b) c) e) f
    refine mU_mono (s_puts hz a (by omega) (by omega)) fun I3 e3 => ?_
    rw [e3]
    refine mU_mono (s_puts hz b (by omega) (by omega)) fun I4 e4 => ?_
    rw [e4]
    refine mU_mono (s_puts hz c (by omega) (by omega)) fun I5 e5 => ?_
    rw [e5]
    refine mU_mono (s_puts hz e (by omega) (by omega)) fun I6 e6 => ?_
    rw [e6]
    refine mU_mono (s_puts hz f (by omega) (by omega)) fun I7 e7 => ?_
    rw [e7]
    refine qI_mk ?_
    rw [if_pos q]
    exact ⟨by rw [e1], by omega⟩
  · rw [if_neg (by omega)]
    exact ⟨e1, rfl⟩
theorem s_isKept (hz : mz z) (k : Int) : mI (d + 2) m_Model_isKept [vR 12 209, vI k] z I fun r I1 => I1 = I ∧ r = if 0 ≤ k ∧ k ≤ 5 then 1 else 0 := by
  refine mr_isKept hz (mI_mono (s_within hz k 0 5) fun v I1 ⟨e1, ev⟩ => ⟨?_, qI_mk ⟨e1, ev⟩⟩)
  by_cases h : 0 ≤ k ∧ k ≤ 5
  · rw [if_pos h] at ev; omega
  · rw [if_neg h] at ev; omega
theorem s_count (hz : mz z) (what : Int) : mI (d + 1) m_Model_count [vR 12 209, vI what] z I fun r I1 => I1 = iu I 209 0 0 ∧ r = if what = 0 then I 209 14 else if what = 1 then I 209 58 else -1 := by
  refine mr_count hz fun I1 e1 => ⟨fun h0 => ⟨fun h1 => qI_mk ⟨e1, by rw [if_neg h0, if_neg h1]⟩, fun h1 => qI_mk ⟨e1, ?_⟩⟩, fun h0 => qI_mk ⟨e1, ?_⟩⟩
  · rw [if_neg h0, if_pos h1, e1, iu_at]; rfl
  · rw [if_pos h0, e1, iu_at]; rfl
theorem s_thrown (hz : mz z) : mI (d + 1) m_Model_thrown [vR 12 209] z I fun r I1 => I1 = I ∧ r = I 209 0 := mr_thrown hz (qI_mk ⟨rfl, rfl⟩)
end MTA
