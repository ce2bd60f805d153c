/-! READING of tables: a number, a row -/
def pNum1 (B f : Int → Int) : Int → Int := if f 18 = 2 ∧ f 19 = 45 then tok f B else f
/-- a number of a table: whether it is good, the reader, the cells -/
def pNum (B : Int → Int) (at_ : Int) (f RT : Int → Int) : Bool × (Int → Int) × (Int → Int) :=
  if pNum1 B f 18 = 1 ∧ pNum1 B f 17 - pNum1 B f 16 ≤ 4 then (true, tok (pNum1 B f) B, fun j => if j = at_ then (if f 18 = 2 ∧ f 19 = 45 then -(pNum1 B f 19) else pNum1 B f 19) % 2521 else RT j) else (false, rBad (pNum1 B f) 1, RT)
theorem rBad_ok {f : Int → Int} (k : Int) (h : rOk f) : rOk (rBad f k) ∧ ∀ s, s < 16 ∨ 20 < s → rBad f k s = f s := by
  refine ⟨h, fun s hs => ?_⟩
  unfold rBad
  rw [if_neg (by omega)]
theorem tok_ok' {f : Int → Int} (B : Int → Int) (h : rOk f) : rOk (tok f B) ∧ ∀ s, s < 16 ∨ 20 < s → tok f B s = f s := by
  obtain ⟨r1, r2, r3, r4, r5, r6⟩ := h
  have := tok_ok B (f := f) (by omega) r3 r4 r5 r6
  exact ⟨this.1, fun s hs => this.2.1 s (by omega)⟩
theorem pNum1_ok {B f : Int → Int} (h : rOk f) : rOk (pNum1 B f) ∧ ∀ s, s < 16 ∨ 20 < s → pNum1 B f s = f s := by
  unfold pNum1
  split
  · exact tok_ok' B h
  · exact ⟨h, fun s _ => rfl⟩
theorem pNum_ok {B f RT : Int → Int} {a : Int} (h : rOk f) (hR : okR RT) : rOk (pNum B a f RT).2.1 ∧ (∀ s, s < 16 ∨ 20 < s → (pNum B a f RT).2.1 s = f s) ∧ okR (pNum B a f RT).2.2 := by
  obtain ⟨h1, h2⟩ := pNum1_ok (B := B) h
  unfold pNum
  split
  · obtain ⟨t1, t2⟩ := tok_ok' B h1
    refine ⟨t1, fun s hs => (t2 s hs).trans (h2 s hs), fun j => ?_⟩
    dsimp only
    split
    · omega
    · exact hR j
  · obtain ⟨t1, t2⟩ := rBad_ok 1 h1
    exact ⟨t1, fun s hs => (t2 s hs).trans (h2 s hs), hR⟩
/-- the reader and the cells told -/
def mJ (I : cm_I) (f RT : Int → Int) : cm_I := iw (iw I 209 f) 220 RT
theorem mJ_at (I : cm_I) (f RT : Int → Int) : mJ I f RT 209 = f ∧ mJ I f RT 220 = RT ∧ mJ I f RT 219 = I 219 := by
  unfold mJ
  exact ⟨by rw [iw_ne _ _ (by decide), iw_at], by rw [iw_at], by rw [iw_ne _ _ (by decide), iw_ne _ _ (by decide)]⟩
theorem mJ_self (I : cm_I) : mJ I (I 209) (I 220) = I := by unfold mJ; rw [iw_self, iw_self]
theorem mJ_f (I : cm_I) (f RT g : Int → Int) : iw (mJ I f RT) 209 g = mJ I g RT := by
  unfold mJ
  rw [iw_comm _ _ _ (by decide), iw_iw]
theorem mJ_R (I : cm_I) (f RT g : Int → Int) : iw (mJ I f RT) 220 g = mJ I f g := by
  unfold mJ
  rw [iw_iw]
theorem mJ_J (I : cm_I) (f RT g R : Int → Int) : mJ (mJ I f RT) g R = mJ I g R := by
  rw [mJ, mJ_f, mJ_R]
section MNU
variable {d : Nat} {z : cm_Z} {I : cm_I}
theorem s_tableNumber (hz : mz z) (h : rOk (I 209)) {a : Int} (a0 : 0 ≤ a) (a1 : a < 36) : mI (d + 3) m_Model_tableNumber [vR 12 209, vI a] z I fun r I1 => I1 = mJ I (pNum (I 219) a (I 209) (I 220)).2.1 (pNum (I 219) a (I 209) (I 220)).2.2 ∧ r = if (pNum (I 219) a (I 209) (I 220)).1 = true then 1 else 0 := by
  obtain ⟨r1, r2, r3, r4, r5, r6⟩ := h
  have h : rOk (I 209) := ⟨r1, r2, r3, r4, r5, r6⟩
  have k15 : ∀ (b : Int) (I0 : cm_I), (b = if I 209 18 = 2 ∧ I 209 19 = 45 then 1 else 0) → I0 = mJ I (pNum1 (I 219) (I 209)) (I 220) → cw (d + 2) cd_Model_tableNumber (qI z fun r I1 => I1 = mJ I (pNum (I 219) a (I 209) (I 220)).2.1 (pNum (I 219) a (I 209) (I 220)).2.2 ∧ r = if (pNum (I 219) a (I 209) (I 220)).1 = true then 1 else 0) 15 [some (vR 12 209), some (vI a), some (vI b)] [] (I0, z) := by
    intro b I0 hb e
    obtain ⟨m1, m2, m3⟩ := mJ_at I (pNum1 (I 219) (I 209)) (I 220)
    rw [← e] at m1 m2 m3
    obtain ⟨p1, p2⟩ := pNum1_ok (B := I 219) h
    have p1' : rOk (I0 209) := by rw [m1]; exact p1
    obtain ⟨q1, q2, q3, q4, q5, q6⟩ := p1
    have bad : ∀ (v : Int) (I1 : cm_I), ¬ (pNum1 (I 219) (I 209) 18 = 1 ∧ pNum1 (I 219) (I 209) 17 - pNum1 (I 219) (I 209) 16 ≤ 4) → I1 = iw I0 209 (rBad (I0 209) 1) → v = 0 → (v = 0 ∨ v = 1) ∧ qI z (fun r I1 => I1 = mJ I (pNum (I 219) a (I 209) (I 220)).2.1 (pNum (I 219) a (I 209) (I 220)).2.2 ∧ r = if (pNum (I 219) a (I 209) (I 220)).1 = true then 1 else 0) (some (vI v)) (I1, z) := by
      intro v I1 hn e1 ev
      refine ⟨Or.inl ev, qI_mk ?_⟩
      unfold pNum
      rw [if_neg hn]
      refine ⟨?_, by rw [ev]; rfl⟩
      rw [e1, m1, e, mJ_f]
    have good : ∀ (w : Int) (I7 : cm_I), (pNum1 (I 219) (I 209) 18 = 1 ∧ pNum1 (I 219) (I 209) 17 - pNum1 (I 219) (I 209) 16 ≤ 4) → w = (if I 209 18 = 2 ∧ I 209 19 = 45 then -(pNum1 (I 219) (I 209) 19) else pNum1 (I 219) (I 209) 19) % 2521 → I7 = iu I0 220 a w → mU (d + 2) m_Model_go [vR 12 209] z I7 fun I8 => qI z (fun r I1 => I1 = mJ I (pNum (I 219) a (I 209) (I 220)).2.1 (pNum (I 219) a (I 209) (I 220)).2.2 ∧ r = if (pNum (I 219) a (I 209) (I 220)).1 = true then 1 else 0) (some (vI 1)) (I8, z) := by
      intro w I7 hy ew e7
      have e7' : I7 = mJ I (pNum1 (I 219) (I 209)) (fun j => if j = a then w else I 220 j) := by rw [e7, iu_def, m2, e, mJ_R]
      obtain ⟨n1, n2, n3⟩ := mJ_at I (pNum1 (I 219) (I 209)) (fun j => if j = a then w else I 220 j)
      rw [← e7'] at n1 n2 n3
      refine mU_mono (s_go hz (by rw [n1]; omega) (by rw [n1]; omega) (by rw [n1]; omega)) fun I8 e8 => qI_mk ?_
      unfold pNum
      rw [if_pos hy]
      refine ⟨?_, rfl⟩
      rw [e8, n1, n3, e7', mJ_f, ew]
    refine mr_tableNumber_15 hz ⟨fun q => mI_mono (s_bad hz p1' (by omega) (by omega)) fun v I1 ⟨e1, ev⟩ => bad v I1 (by rw [m1] at q; exact fun hx => q hx.1) e1 ev, fun q => ?_⟩
    rw [m1] at q ⊢
    refine ⟨⟨by omega, by omega⟩, fun q4 => ⟨fun hb0 => mI_mono (s_of hz _) fun v5 I4 ⟨e4, ev5⟩ => ⟨⟨a0, a1⟩, fun I7 e7 => good v5 I7 ⟨q, q4⟩ ?_ (by rw [e7, e4])⟩, fun hb1 => ⟨⟨by omega, by omega⟩, mI_mono (s_of hz _) fun v5 I4 ⟨e4, ev5⟩ => ⟨⟨a0, a1⟩, fun I7 e7 => good v5 I7 ⟨q, q4⟩ ?_ (by rw [e7, e4])⟩⟩⟩, fun q4 => mI_mono (s_bad hz p1' (by omega) (by omega)) fun v I1 ⟨e1, ev⟩ => bad v I1 (fun hx => by have := hx.2; omega) e1 ev⟩
    · have hn : ¬ (I 209 18 = 2 ∧ I 209 19 = 45) := by intro hx; rw [if_pos hx] at hb; omega
      rw [if_neg hn]
      exact ev5
    · have hn : I 209 18 = 2 ∧ I 209 19 = 45 := by
        apply Classical.byContradiction
        intro hx
        rw [if_neg hx] at hb
        exact hb1 hb
      rw [if_pos hn]
      exact ev5
  refine mr_tableNumber hz (mI_mono (s_is hz 45) fun v2 I1 ⟨e1, e2, e3⟩ => ?_)
  rw [e1]
  refine ⟨fun q => k15 v2 I ?_ ?_, fun q => mU_mono (s_go hz (by omega) (by omega) (by omega)) fun I3 e => k15 v2 I3 ?_ ?_⟩
  · have hn : ¬ (I 209 18 = 2 ∧ I 209 19 = 45) := fun hx => by have := e3.mpr hx; omega
    rw [if_neg hn]
    exact q
  · have hn : ¬ (I 209 18 = 2 ∧ I 209 19 = 45) := fun hx => by have := e3.mpr hx; omega
    unfold pNum1
    rw [if_neg hn, mJ_self]
  · have hn : I 209 18 = 2 ∧ I 209 19 = 45 := e3.mp (by omega)
    rw [if_pos hn]
    omega
  · have hn : I 209 18 = 2 ∧ I 209 19 = 45 := e3.mp (by omega)
    unfold pNum1
    rw [if_pos hn, e]
    conv => lhs; rw [← mJ_self I]
    rw [mJ_f, mJ_self]
end MNU
