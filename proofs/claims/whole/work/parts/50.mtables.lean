/-! the fault's slot -/
def F20 (b : Bool) (f : Int → Int) : Prop := (b = true → f 20 = 0) ∧ 0 ≤ f 20 ∧ f 20 ≤ 4000
theorem tok20 {B f : Int → Int} (h : rOk f) : tok f B 20 = f 20 := by
  obtain ⟨r1, r2, r3, r4, r5, r6⟩ := id h
  exact (tok_ok B (f := f) (by omega) r3 r4 r5 r6).2.1 20 (by omega)
theorem bad20 {f : Int → Int} (h : rOk f) (h20 : f 20 = 0) {k : Int} (k0 : 0 ≤ k) (k1 : k ≤ 7) : F20 false (rBad f k) := by
  obtain ⟨r1, r2, r3, r4, r5, r6⟩ := id h
  refine ⟨fun q => ff q, ?_⟩
  unfold rBad
  rw [if_pos rfl, if_pos h20]
  omega
theorem good20 {f : Int → Int} (b : Bool) (h20 : f 20 = 0) : F20 b f := ⟨fun _ => h20, by omega, by omega⟩
theorem pNum_20 {B f RT : Int → Int} {a : Int} (h : rOk f) (h20 : f 20 = 0) : F20 (pNum B a f RT).1 (pNum B a f RT).2.1 := by
  have h1 : rOk (pNum1 B f) := (pNum1_ok h).1
  have e1 : pNum1 B f 20 = 0 := by
    unfold pNum1
    split
    · rw [tok20 h, h20]
    · exact h20
  unfold pNum
  split
  · exact good20 _ ((tok20 h1).trans e1)
  · exact bad20 h1 e1 (by omega) (by omega)
theorem pRow_20 {B : Int → Int} {D a : Int} : ∀ (k : Nat) (n : Int) (f RT : Int → Int), rOk f → okR RT → f 20 = 0 → F20 (pRow B D a k n f RT).1 (pRow B D a k n f RT).2.2.1 := by
  intro k
  induction k with
  | zero => intro n f RT h hR h20; exact good20 _ h20
  | succ k ih =>
    intro n f RT h hR h20
    by_cases q : pMore D n f
    · rw [pRow_yes q]
      obtain ⟨x1, x2, x3⟩ := pNum_ok (B := B) (a := a + n) h hR
      have x4 := pNum_20 (B := B) (RT := RT) (a := a + n) h h20
      by_cases g : (pNum B (a + n) f RT).1 = true
      · rw [if_pos g]
        exact ih _ _ _ x1 x3 (x4.1 g)
      · rw [if_neg g]
        exact ⟨fun q => ff q, x4.2⟩
    · rw [pRow_no q]
      exact good20 _ h20
theorem pRowAll_20 {B : Int → Int} {a : Int} {f RT : Int → Int} (h : rOk f) (hR : okR RT) (h20 : f 20 = 0) : F20 (pRowAll B a f RT).1 (pRowAll B a f RT).2.1 := pRow_20 3 0 f RT h hR h20
theorem pTabF_20 {B : Int → Int} {m : Int} : ∀ (k : Nat) (i : Int) (f RT : Int → Int), rOk f → okR RT → (f 23 = 2 ∨ f 23 = 3) → f 20 = 0 → F20 (pTabF B m k i f RT).1 (pTabF B m k i f RT).2.1 := by
  intro k
  induction k with
  | zero => intro i f RT h hR _ h20; exact good20 _ h20
  | succ k ih =>
    intro i f RT h hR hD h20
    rw [pTabF]
    obtain ⟨t1, t2⟩ := tok_ok' B h
    have t23 : tok f B 23 = f 23 := t2 23 (by omega)
    have t20 : tok f B 20 = 0 := (tok20 h).trans h20
    obtain ⟨x1, x2, x3, x4, x5⟩ := pRowAll_ok (B := B) (a := 9 * m + 3 * i) t1 hR (by rw [t23]; omega)
    have x6 := pRowAll_20 (B := B) (a := 9 * m + 3 * i) t1 hR t20
    by_cases c1 : i < f 23
    · rw [if_pos c1]
      by_cases c2 : f 18 = 2 ∧ f 19 = 47
      · rw [if_pos c2]
        by_cases c3 : (pRowAll B (9 * m + 3 * i) (tok f B) RT).1 = true
        · rw [if_pos c3]
          exact ih (i + 1) _ _ x1 x2 (x4 c3) (x6.1 c3)
        · rw [if_neg c3]
          exact ⟨fun q => ff q, x6.2⟩
      · rw [if_neg c2]
        exact bad20 h h20 (by omega) (by omega)
    · rw [if_neg c1]
      exact good20 _ h20
theorem pTab_20 {B : Int → Int} {f RT : Int → Int} (h : rOk f) (hR : okR RT) (hD : f 23 = 0 ∨ f 23 = 2 ∨ f 23 = 3) (h20 : f 20 = 0) : F20 (pTab B f RT).1 (pTab B f RT).2.1 := by
  obtain ⟨x1, x2, x3, x4, x5⟩ := pRowAll_ok (B := B) (a := 9 * f 24) h hR hD
  have x6 := pRowAll_20 (B := B) (a := 9 * f 24) h hR h20
  have y : F20 (pTab0 B f RT).1 (pTab0 B f RT).2.1 := by
    unfold pTab0
    by_cases c : (pRowAll B (9 * f 24) f RT).1 = true
    · rw [if_pos c]
      exact pTabF_20 2 1 _ _ x1 x2 (x4 c) (x6.1 c)
    · rw [if_neg c]
      exact ⟨fun q => ff q, x6.2⟩
  exact y
theorem pTab_f20 {B : Int → Int} {f RT : Int → Int} (h : rOk f) (hR : okR RT) (hD : f 23 = 0 ∨ f 23 = 2 ∨ f 23 = 3) (h20 : f 20 = 0) (g : (pTab B f RT).1 = true) : (pTab B f RT).2.1 20 = 0 := (pTab_20 h hR hD h20).1 g
theorem pTab_f20' {B : Int → Int} {f RT : Int → Int} (h : rOk f) (hR : okR RT) (hD : f 23 = 0 ∨ f 23 = 2 ∨ f 23 = 3) (h20 : f 20 = 0) : 0 ≤ (pTab B f RT).2.1 20 ∧ (pTab B f RT).2.1 20 ≤ 4000 := (pTab_20 h hR hD h20).2
/-! TABLES: the call -/
def okP (f : Int → Int) : Prop := ∀ t, 0 ≤ f t ∧ f t ≤ 400
theorem okP_st {f : Int → Int} (h : okP f) (m : Int) {v : Int} (v0 : 0 ≤ v) (v1 : v ≤ 400) : okP (st1 f m v) := by
  intro t
  unfold st1
  split
  · exact ⟨v0, v1⟩
  · exact h t
/-- tables behind the first -/
def pTabsF (B : Int → Int) : Nat → (Int → Int) → (Int → Int) → (Int → Int) → Bool × (Int → Int) × (Int → Int) × (Int → Int)
  | 0, f, RT, RP => (true, f, RT, RP)
  | k + 1, f, RT, RP => if f 18 = 2 ∧ f 19 = 59 then (if f 24 = 4 then (false, rBad f 2, RT, RP) else (if (pTab B (tok f B) RT).1 = true then pTabsF B k (pTab B (tok f B) RT).2.1 (pTab B (tok f B) RT).2.2 (st1 RP (f 24) (tok f B 16)) else (false, (pTab B (tok f B) RT).2.1, (pTab B (tok f B) RT).2.2, st1 RP (f 24) (tok f B 16)))) else (true, f, RT, RP)
def pTabs1 (B f RT RP : Int → Int) : Bool × (Int → Int) × (Int → Int) × (Int → Int) :=
  if (pTab B f RT).1 = true then pTabsF B 4 (pTab B f RT).2.1 (pTab B f RT).2.2 (st1 RP (f 24) (f 16)) else (false, (pTab B f RT).2.1, (pTab B f RT).2.2, st1 RP (f 24) (f 16))
/-- all tables, to the end of the text -/
def pTabs (B f RT RP : Int → Int) : Bool × (Int → Int) × (Int → Int) × (Int → Int) :=
  if (pTabs1 B f RT RP).1 = true ∧ (pTabs1 B f RT RP).2.1 18 ≠ 0 then (false, rBad (pTabs1 B f RT RP).2.1 1, (pTabs1 B f RT RP).2.2) else pTabs1 B f RT RP
/-- what reading keeps -/
def tbOk (f0 : Int → Int) (r : Bool × (Int → Int) × (Int → Int) × (Int → Int)) : Prop := rOk r.2.1 ∧ okR r.2.2.1 ∧ okP r.2.2.2 ∧ (∀ s, (s < 16 ∨ 20 < s) → s ≠ 23 → s ≠ 24 → r.2.1 s = f0 s) ∧ 1 ≤ r.2.1 24 ∧ r.2.1 24 ≤ 4 ∧ (r.1 = true → r.2.1 23 = 2 ∨ r.2.1 23 = 3)
theorem pTabsF_ok {B : Int → Int} {f0 : Int → Int} : ∀ (k : Nat) (f RT RP : Int → Int), tbOk f0 (true, f, RT, RP) → tbOk f0 (pTabsF B k f RT RP) := by
  intro k
  induction k with
  | zero => intro f RT RP h; exact h
  | succ k ih =>
    intro f RT RP h
    obtain ⟨h1, h2, h3, h4, h5, h6, h7⟩ := h
    have h1 : rOk f := h1
    have h2 : okR RT := h2
    have h3 : okP RP := h3
    have h4 : ∀ s, (s < 16 ∨ 20 < s) → s ≠ 23 → s ≠ 24 → f s = f0 s := h4
    have h5 : 1 ≤ f 24 := h5
    have h6 : f 24 ≤ 4 := h6
    have h7 : f 23 = 2 ∨ f 23 = 3 := h7 rfl
    rw [pTabsF]
    by_cases c1 : f 18 = 2 ∧ f 19 = 59
    · rw [if_pos c1]
      by_cases c2 : f 24 = 4
      · rw [if_pos c2]
        obtain ⟨b1, b2⟩ := rBad_ok 2 h1
        exact ⟨b1, h2, h3, fun s hs a b => (b2 s hs).trans (h4 s hs a b), by show 1 ≤ rBad f 2 24; rw [b2 24 (by omega)]; exact h5, by show rBad f 2 24 ≤ 4; rw [b2 24 (by omega)]; exact h6, fun q => ff q⟩
      · rw [if_neg c2]
        obtain ⟨t1, t2⟩ := tok_ok' B h1
        have t23 := t2 23 (by omega)
        have t24 := t2 24 (by omega)
        obtain ⟨x1, x2, x3, x4, x5⟩ := pTab_ok (B := B) t1 h2 (by rw [t23]; omega)
        obtain ⟨r1, r2, r3, r4, r5, r6⟩ := id t1
        have hP : okP (st1 RP (f 24) (tok f B 16)) := okP_st h3 _ r1 (by omega)
        have e4 : ∀ s, (s < 16 ∨ 20 < s) → s ≠ 23 → s ≠ 24 → (pTab B (tok f B) RT).2.1 s = f0 s := fun s hs a b => by rw [x3 s hs a b, t2 s hs, h4 s hs a b]
        by_cases c3 : (pTab B (tok f B) RT).1 = true
        · rw [if_pos c3]
          exact ih _ _ _ ⟨x1, x2, hP, e4, by show 1 ≤ (pTab B (tok f B) RT).2.1 24; omega, by show (pTab B (tok f B) RT).2.1 24 ≤ 4; omega, fun _ => x5 c3⟩
        · rw [if_neg c3]
          exact ⟨x1, x2, hP, e4, by show 1 ≤ (pTab B (tok f B) RT).2.1 24; omega, by show (pTab B (tok f B) RT).2.1 24 ≤ 4; omega, fun q => ff q⟩
    · rw [if_neg c1]
      exact ⟨h1, h2, h3, h4, h5, h6, fun _ => h7⟩
theorem pTabs_ok {B f RT RP : Int → Int} (h : rOk f) (hR : okR RT) (hP : okP RP) (h23 : f 23 = 0) (h24 : f 24 = 0) : tbOk f (pTabs1 B f RT RP) ∧ tbOk f (pTabs B f RT RP) := by
  obtain ⟨x1, x2, x3, x4, x5⟩ := pTab_ok (B := B) h hR (by omega)
  obtain ⟨r1, r2, r3, r4, r5, r6⟩ := id h
  have hP' : okP (st1 RP (f 24) (f 16)) := okP_st hP _ r1 (by omega)
  have a : tbOk f (pTabs1 B f RT RP) := by
    unfold pTabs1
    by_cases c : (pTab B f RT).1 = true
    · rw [if_pos c]
      exact pTabsF_ok 4 _ _ _ ⟨x1, x2, hP', x3, by show 1 ≤ (pTab B f RT).2.1 24; omega, by show (pTab B f RT).2.1 24 ≤ 4; omega, fun _ => x5 c⟩
    · rw [if_neg c]
      exact ⟨x1, x2, hP', x3, by show 1 ≤ (pTab B f RT).2.1 24; omega, by show (pTab B f RT).2.1 24 ≤ 4; omega, fun q => ff q⟩
  refine ⟨a, ?_⟩
  unfold pTabs
  split
  · obtain ⟨a1, a2, a3, a4, a5, a6, a7⟩ := a
    obtain ⟨b1, b2⟩ := rBad_ok 1 a1
    exact ⟨b1, a2, a3, fun s hs x y => (b2 s hs).trans (a4 s hs x y), Int.le_trans a5 (Int.le_of_eq (b2 24 (by omega)).symm), Int.le_trans (Int.le_of_eq (b2 24 (by omega))) a6, fun q => ff q⟩
  · exact a
theorem rBad20 {f : Int → Int} (h : rOk f) (h20 : 0 ≤ f 20) (h21 : f 20 ≤ 4000) {k : Int} (k0 : 0 ≤ k) (k1 : k ≤ 7) : 0 ≤ rBad f k 20 ∧ rBad f k 20 ≤ 4000 := by
  obtain ⟨r1, r2, r3, r4, r5, r6⟩ := id h
  unfold rBad
  rw [if_pos rfl]
  split <;> omega
/-- the reader of tables, before it begins -/
def tb0 (B : Int → Int) (n : Int) (f : Int → Int) : Int → Int := st1 (st1 (rSt B n (st1 f 0 0)) 23 0) 24 0
theorem tb0_ok {B : Int → Int} {n : Int} {f : Int → Int} (h0 : 0 ≤ n) (h1 : n ≤ 400) (h2 : 0 ≤ f 19) (h3 : f 19 ≤ 9999) : rOk (tb0 B n f) ∧ tb0 B n f 14 = 0 ∧ tb0 B n f 15 = n ∧ tb0 B n f 20 = 0 ∧ tb0 B n f 0 = 0 ∧ (∀ s, (s < 14 ∨ 20 < s) → s ≠ 0 → s ≠ 23 → s ≠ 24 → tb0 B n f s = f s) := by
  obtain ⟨a, b, c, e, g⟩ := rSt_ok (B := B) (f := st1 f 0 0) h0 h1 h2 h3
  refine ⟨a, b, c, e, g 0 (by omega), fun s hs z0 z1 z2 => ?_⟩
  unfold tb0
  show (if s = 24 then _ else if s = 23 then _ else _) = _
  rw [if_neg z2, if_neg z1, g s hs]
  unfold st1
  rw [if_neg z0]
def tbPost (I : cm_I) (n : Int) (s : Nat × (Nat → cMat)) (r : Int) (I1 : cm_I) : Prop :=
  if 0 ≤ n ∧ n ≤ I 209 14 then ∃ I2, fr [209, 220, 221] I I2 ∧ I2 209 = (pTabs (I 219) (tb0 (I 219) n (I 209)) (I 220) (I 221)).2.1 ∧ I2 220 = (pTabs (I 219) (tb0 (I 219) n (I 209)) (I 220) (I 221)).2.2.1 ∧ I2 221 = (pTabs (I 219) (tb0 (I 219) n (I 209)) (I 220) (I 221)).2.2.2 ∧ (((pTabs (I 219) (tb0 (I 219) n (I 209)) (I 220) (I 221)).1 = false ∧ I1 = I2 ∧ r = -2 - I2 209 20) ∨ ((pTabs (I 219) (tb0 (I 219) n (I 209)) (I 220) (I 221)).1 = true ∧ tkPost I2 (I2 209 24).toNat s r I1))
  else I1 = iu I 209 0 0 ∧ r = -1
section MTC
variable {d : Nat} {z : cm_Z} {I : cm_I}
theorem s_tables (hz : mz z) (hD : mD I) (ok17 : okR (I 217)) (ok18 : okR (I 218)) (ok20 : okR (I 220)) (hP : okP (I 221)) (hv : 0 ≤ I 209 19 ∧ I 209 19 ≤ 9999) (ht : 0 ≤ I 209 14 ∧ I 209 14 ≤ 400) {nt : Nat} (hnt : I 209 9 = nt) (hn4 : nt ≤ 4) {s : Nat × (Nat → cMat)} (old : gAll (mTab I) nt 48 = some s) (n : Int) : mI (d + 6) m_Model_tables [vR 12 209, vI n] z I fun r I1 => tbPost I n s r I1 := by
  refine mr_tables hz fun I1 e1 => ?_
  obtain ⟨f1, g1⟩ := fr_eq_iu e1
  have e14 : I1 209 14 = I 209 14 := by rw [g1]; rfl
  have e0 : I1 209 = st1 (I 209) 0 0 := g1
  refine mI_mono (s_within hz n 0 (I1 209 14)) fun v3 I2 ⟨e2, ev⟩ => ?_
  rw [e2]
  rw [e14] at ev
  by_cases c : 0 ≤ n ∧ n ≤ I 209 14
  · rw [if_pos c] at ev
    refine ⟨fun _ => ?_, fun q => by omega⟩
    refine mU_mono (s_starts hz c.1 (by omega)) fun I4 ⟨f4, g4⟩ I5 e5 I6 e6 => ?_
    obtain ⟨f5, g5⟩ := fr_eq_iu e5
    obtain ⟨f6, g6⟩ := fr_eq_iu e6
    have fa : fr [209] I I6 := fr_trans f1 (fr_trans f4 (fr_trans f5 f6))
    have h9 : I6 209 = tb0 (I 219) n (I 209) := by rw [g6, g5, g4, e0, f1 219 (by decide)]; rfl
    have h20 : I6 220 = I 220 := fa 220 (by decide)
    have h21 : I6 221 = I 221 := fa 221 (by decide)
    have h19 : I6 219 = I 219 := fa 219 (by decide)
    obtain ⟨b1, b2, b3, b4, b5, b6⟩ := tb0_ok (B := I 219) (f := I 209) c.1 (by omega) hv.1 hv.2
    have b23 : tb0 (I 219) n (I 209) 23 = 0 := rfl
    have b24 : tb0 (I 219) n (I 209) 24 = 0 := rfl
    obtain ⟨p1, p2⟩ := pTabs_ok (B := I 219) b1 ok20 hP b23 b24
    -- behind reading
    have k98 : ∀ (g : Int) (I0 : cm_I) (z1 : Option cm_V), fr [209, 220, 221] I I0 → pTabs (I 219) (tb0 (I 219) n (I 209)) (I 220) (I 221) = (decide (g = 1), I0 209, I0 220, I0 221) → (g = 0 ∨ g = 1) → 0 ≤ I0 209 20 → I0 209 20 ≤ 4000 → cw (d + 5) cd_Model_tables (qI z fun r I1 => tbPost I n s r I1) 98 [some (vR 12 209), z1, some (vI g)] [] (I0, z) := by
      intro g I0 z1 hf hp hg q0 q1
      refine mr_tables_98 hz ⟨fun q => ⟨⟨by omega, by omega⟩, qI_mk ?_⟩, fun q => ?_⟩
      · unfold tbPost
        rw [if_pos c, hp]
        exact ⟨I0, hf, rfl, rfl, rfl, Or.inl ⟨by rw [q]; rfl, rfl, rfl⟩⟩
      · have hg1 : g = 1 := by omega
        rw [hp] at p2
        obtain ⟨a1, a2, a3, a4, a5, a6, a7⟩ := p2
        have a2 : okR (I0 220) := a2
        have a3 : okP (I0 221) := a3
        have a5 : 1 ≤ I0 209 24 := a5
        have a6 : I0 209 24 ≤ 4 := a6
        have a7 : I0 209 23 = 2 ∨ I0 209 23 = 3 := a7 (by rw [hg1]; rfl)
        have ed : ∀ x, (x < 14 ∨ 20 < x) → x ≠ 0 → x ≠ 23 → x ≠ 24 → I0 209 x = I 209 x := fun x hx n0 n3 n4 => by
          have := a4 x (by omega) n3 n4
          rw [show (decide (g = 1), I0 209, I0 220, I0 221).2.1 x = I0 209 x from rfl] at this
          rw [this, b6 x hx n0 n3 n4]
        have eT : mTab I0 = mTab I := by unfold mTab; rw [ed 1 (by omega) (by decide) (by decide) (by decide), hf 217 (by decide)]
        refine mI_mono (s_takes hz (by unfold mD; rw [ed 1 (by omega) (by decide) (by decide) (by decide)]; exact hD) a7 (by rw [hf 217 (by decide)]; exact ok17) (by rw [hf 218 (by decide)]; exact ok18) a2 (by rw [ed 9 (by omega) (by decide) (by decide) (by decide)]; exact hnt) hn4 (rm := (I0 209 24).toNat) (by omega) (by omega) (by rw [eT]; exact old) (fun t _ _ => a3 t)) fun v3 I7 h7 => qI_mk ?_
        unfold tbPost
        rw [if_pos c, hp]
        exact ⟨I0, hf, rfl, rfl, rfl, Or.inr ⟨by rw [hg1]; rfl, h7⟩⟩
    have k81 : ∀ (g : Int) (I0 : cm_I) (z1 : Option cm_V), fr [209, 220, 221] I I0 → pTabs1 (I 219) (tb0 (I 219) n (I 209)) (I 220) (I 221) = (decide (g = 1), I0 209, I0 220, I0 221) → (g = 0 ∨ g = 1) → 0 ≤ I0 209 20 → I0 209 20 ≤ 4000 → cw (d + 5) cd_Model_tables (qI z fun r I1 => tbPost I n s r I1) 81 [some (vR 12 209), z1, some (vI g)] [] (I0, z) := by
      intro g I0 z1 hf hp hg q0 q1
      rw [hp] at p1
      have rok : rOk (I0 209) := p1.1
      refine mr_tables_81 hz ⟨fun q => k98 g I0 z1 hf ?_ hg q0 q1, fun q => ⟨fun q2 => k98 g I0 z1 hf ?_ hg q0 q1, fun q2 => mI_mono (s_bad hz rok (by omega) (by omega)) fun v2 I3 ⟨e3, ev3⟩ => ?_⟩⟩
      · unfold pTabs
        rw [hp, if_neg]
        intro hx
        have := of_decide_eq_true hx.1
        omega
      · unfold pTabs
        rw [hp, if_neg]
        intro hx
        exact hx.2 q2
      · obtain ⟨f3, g3⟩ := fr_eq_iw e3
        have r20 := rBad20 rok q0 q1 (k := 1) (by omega) (by omega)
        rw [ev3]
        refine k98 0 I3 z1 (fr_trans hf (fr_mono f3 (by decide))) ?_ (Or.inl rfl) (by rw [g3]; exact r20.1) (by rw [g3]; exact r20.2)
        unfold pTabs
        rw [hp, if_pos ⟨by rw [decide_eq_true_eq]; omega, q2⟩, g3, f3 220 (by decide), f3 221 (by decide)]
        rfl
    have k39 : ∀ (k : Nat) (I0 : cm_I) (z1 : Option cm_V), I0 209 24 + k = 5 → fr [209, 220, 221] I I0 → pTabs1 (I 219) (tb0 (I 219) n (I 209)) (I 220) (I 221) = pTabsF (I 219) k (I0 209) (I0 220) (I0 221) → tbOk (tb0 (I 219) n (I 209)) (true, I0 209, I0 220, I0 221) → I0 209 20 = 0 → cw (d + 5) cd_Model_tables (qI z fun r I1 => tbPost I n s r I1) 39 [some (vR 12 209), z1, some (vI 1)] [] (I0, z) := by
      intro k
      induction k with
      | zero =>
        intro I0 z1 ek hf hp hk q20
        have : I0 209 24 ≤ 4 := hk.2.2.2.2.2.1
        omega
      | succ k ih =>
        intro I0 z1 ek hf hp hk q20
        obtain ⟨h1, h2, h3, h4, h5, h6, h7⟩ := hk
        have h1 : rOk (I0 209) := h1
        have h2 : okR (I0 220) := h2
        have h3 : okP (I0 221) := h3
        have h5 : 1 ≤ I0 209 24 := h5
        have h6 : I0 209 24 ≤ 4 := h6
        have h7 : I0 209 23 = 2 ∨ I0 209 23 = 3 := h7 rfl
        have e19 : I0 219 = I 219 := hf 219 (by decide)
        rw [pTabsF] at hp
        refine mr_tables_39 hz ⟨fun q => absurd q (by decide), fun _ => mI_mono (s_is hz 59) fun v2 I3 ⟨e3, ev, ev1⟩ => ?_⟩
        rw [e3]
        refine ⟨fun q => k81 1 I0 z1 hf ?_ (Or.inr rfl) (by omega) (by omega), fun q => ?_⟩
        · rw [hp, if_neg (fun hx => by have := ev1.mpr hx; omega)]
          rfl
        · have hs : I0 209 18 = 2 ∧ I0 209 19 = 59 := ev1.mp (by omega)
          rw [if_pos hs] at hp
          obtain ⟨r1, r2, r3, r4, r5, r6⟩ := id h1
          refine ⟨fun q4 => ?_, fun q4 => mI_mono (s_bad hz h1 (by omega) (by omega)) fun v7 I7 ⟨e7, ev7⟩ => ?_⟩
          · rw [if_neg q4] at hp
            refine mU_mono (s_go hz (by omega) (by omega) (by omega)) fun I5 e5 => ?_
            obtain ⟨f5, g5⟩ := fr_eq_iw e5
            rw [e19] at g5
            obtain ⟨t1, t2⟩ := tok_ok' (I 219) h1
            have t23 := t2 23 (by omega)
            have t24 := t2 24 (by omega)
            have t20 : tok (I0 209) (I 219) 20 = 0 := by
              have := (tok_ok (I 219) (f := I0 209) (by omega) r3 r4 r5 r6).2.1 20 (by omega)
              rw [this, q20]
            have i20 : I5 220 = I0 220 := f5 220 (by decide)
            have i21 : I5 221 = I0 221 := f5 221 (by decide)
            have i19 : I5 219 = I 219 := (f5 219 (by decide)).trans e19
            obtain ⟨x1, x2, x3, x4, x5⟩ := pTab_ok (B := I 219) t1 h2 (by rw [t23]; omega)
            have e4 : ∀ y, (y < 16 ∨ 20 < y) → y ≠ 23 → y ≠ 24 → (pTab (I 219) (tok (I0 209) (I 219)) (I0 220)).2.1 y = tb0 (I 219) n (I 209) y := fun y hy a b => by rw [x3 y hy a b, t2 y hy, ← h4 y hy a b]
            refine mI_mono (s_table hz (by rw [g5]; exact t1) (by rw [i20]; exact h2) (by rw [g5, t23]; omega) (by rw [g5, t24]; omega) (by rw [g5, t24]; omega)) fun v5 I8 ⟨f8, u1, u2, u3, u4⟩ => ?_
            rw [g5, i19, i20] at u1 u2 u4
            rw [g5, i21, t24] at u3
            have hf8 : fr [209, 220, 221] I I8 := fr_trans hf (fr_trans (fr_mono f5 (by decide)) f8)
            obtain ⟨w1, w2, w3, w4, w5, w6⟩ := id t1
            have hP8 : okP (st1 (I0 221) (I0 209 24) (tok (I0 209) (I 219) 16)) := okP_st h3 _ w1 (by omega)
            by_cases c3 : (pTab (I 219) (tok (I0 209) (I 219)) (I0 220)).1 = true
            · rw [if_pos c3] at hp u4
              rw [u4]
              refine ih I8 z1 (by rw [u1]; omega) hf8 (by rw [hp, u1, u2, u3]) ⟨by rw [u1]; exact x1, by rw [u2]; exact x2, by rw [u3]; exact hP8, fun y hy a b => by rw [u1]; exact e4 y hy a b, by show 1 ≤ I8 209 24; rw [u1]; omega, by show I8 209 24 ≤ 4; rw [u1]; omega, fun _ => by show I8 209 23 = 2 ∨ I8 209 23 = 3; rw [u1]; exact x5 c3⟩ ?_
              rw [u1]
              exact pTab_f20 ⟨w1, w2, w3, w4, w5, w6⟩ h2 (by rw [t23]; omega) t20 c3
            · rw [if_neg c3] at hp u4
              rw [u4]
              have y20 := pTab_f20' (B := I 219) ⟨w1, w2, w3, w4, w5, w6⟩ h2 (by rw [t23]; omega) t20
              exact mr_tables_39 hz ⟨fun _ => k81 0 I8 z1 hf8 (by rw [hp, u1, u2, u3]; rfl) (Or.inl rfl) (by rw [u1]; exact y20.1) (by rw [u1]; exact y20.2), fun q0 => absurd rfl q0⟩
          · rw [if_pos q4] at hp
            obtain ⟨f7, g7⟩ := fr_eq_iw e7
            have r20 := rBad20 h1 (by omega) (by omega) (k := 2) (by omega) (by omega)
            rw [ev7]
            exact mr_tables_39 hz ⟨fun _ => k81 0 I7 z1 (fr_trans hf (fr_mono f7 (by decide))) (by rw [hp, g7, f7 220 (by decide), f7 221 (by decide)]; rfl) (Or.inl rfl) (by rw [g7]; exact r20.1) (by rw [g7]; exact r20.2), fun q0 => absurd rfl q0⟩
    refine mI_mono (s_table hz (by rw [h9]; exact b1) (by rw [h20]; exact ok20) (by rw [h9, b23]; omega) (by rw [h9, b24]; omega) (by rw [h9, b24]; omega)) fun v8 I7 ⟨f7, u1, u2, u3, u4⟩ => ?_
    rw [h9, h19, h20] at u1 u2 u4
    rw [h9, h21] at u3
    have hf7 : fr [209, 220, 221] I I7 := fr_trans (fr_mono fa (by decide)) f7
    obtain ⟨x1, x2, x3, x4, x5⟩ := pTab_ok (B := I 219) b1 ok20 (by omega)
    obtain ⟨w1, w2, w3, w4, w5, w6⟩ := id b1
    have hP8 : okP (st1 (I 221) (tb0 (I 219) n (I 209) 24) (tb0 (I 219) n (I 209) 16)) := okP_st hP _ w1 (by omega)
    by_cases c3 : (pTab (I 219) (tb0 (I 219) n (I 209)) (I 220)).1 = true
    · rw [if_pos c3] at u4
      rw [u4]
      refine k39 4 I7 _ (by rw [u1, x4, b24]; rfl) hf7 (by unfold pTabs1; rw [if_pos c3, u1, u2, u3]) ⟨by rw [u1]; exact x1, by rw [u2]; exact x2, by rw [u3]; exact hP8, fun y hy a b => by rw [u1]; exact x3 y hy a b, by show 1 ≤ I7 209 24; rw [u1]; omega, by show I7 209 24 ≤ 4; rw [u1]; omega, fun _ => by show I7 209 23 = 2 ∨ I7 209 23 = 3; rw [u1]; exact x5 c3⟩ ?_
      rw [u1]
      exact pTab_f20 ⟨w1, w2, w3, w4, w5, w6⟩ ok20 (by omega) b4 c3
    · rw [if_neg c3] at u4
      rw [u4]
      have y20 := pTab_f20' (B := I 219) ⟨w1, w2, w3, w4, w5, w6⟩ ok20 (by omega) b4
      exact mr_tables_39 hz ⟨fun _ => k81 0 I7 _ hf7 (by unfold pTabs1; rw [if_neg c3, u1, u2, u3]; rfl) (Or.inl rfl) (by rw [u1]; exact y20.1) (by rw [u1]; exact y20.2), fun q0 => absurd rfl q0⟩
  · rw [if_neg c] at ev
    refine ⟨fun q => absurd ev q, fun _ => qI_mk ?_⟩
    unfold tbPost
    rw [if_neg c]
    exact ⟨e1, rfl⟩
end MTC
