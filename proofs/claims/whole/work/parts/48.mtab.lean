/-! FRAMES; reading of tables: a table, all of them -/
theorem ff {P : Prop} (h : false = true) : P := Bool.noConfusion h
def fr (l : List Nat) (I I1 : cm_I) : Prop := ∀ a, a ∉ l → I1 a = I a
theorem fr_refl (l : List Nat) (I : cm_I) : fr l I I := fun _ _ => rfl
theorem fr_trans {l : List Nat} {I I1 I2 : cm_I} (h : fr l I I1) (h' : fr l I1 I2) : fr l I I2 := fun a q => (h' a q).trans (h a q)
theorem fr_mono {l l' : List Nat} {I I1 : cm_I} (h : fr l I I1) (s : ∀ x, x ∈ l → x ∈ l') : fr l' I I1 := fun a q => h a fun m => q (s a m)
theorem fr_iw (I : cm_I) (a : Nat) (F : Int → Int) : fr [a] I (iw I a F) := fun b q => iw_ne _ _ fun e => q (by rw [e]; exact List.mem_cons_self)
theorem fr_iu (I : cm_I) (a : Nat) (i v : Int) : fr [a] I (iu I a i v) := fun b q => iu_ne _ _ _ fun e => q (by rw [e]; exact List.mem_cons_self)
theorem fr_eq_iw {I I1 : cm_I} {a : Nat} {F : Int → Int} (e : I1 = iw I a F) : fr [a] I I1 ∧ I1 a = F := by subst e; exact ⟨fr_iw I a F, iw_at I a F⟩
theorem fr_eq_iu {I I1 : cm_I} {a : Nat} {i v : Int} (e : I1 = iu I a i v) : fr [a] I I1 ∧ I1 a = fun j => if j = i then v else I a j := by subst e; exact ⟨fr_iu I a i v, iu_at I a i v⟩
theorem mJ_fr {I I1 : cm_I} {f RT : Int → Int} (e : I1 = mJ I f RT) : fr [209, 220] I I1 ∧ I1 209 = f ∧ I1 220 = RT := by
  subst e
  refine ⟨fun a q => ?_, (mJ_at I f RT).1, (mJ_at I f RT).2.1⟩
  unfold mJ
  rw [iw_ne _ _ (fun e => q (by subst e; decide)), iw_ne _ _ (fun e => q (by subst e; decide))]
/-- a slot is v -/
def st1 (f : Int → Int) (s v : Int) : Int → Int := fun j => if j = s then v else f j
theorem pRow_good {B : Int → Int} {D a : Int} (hD : D = 0 ∨ D = 2 ∨ D = 3) : ∀ (k : Nat) (n : Int) (f RT : Int → Int), 0 ≤ n → n + k = 3 → (D = 2 → n ≤ 2) → (pRow B D a k n f RT).1 = true → (D = 0 → (pRow B D a k n f RT).2.1 = 2 ∨ (pRow B D a k n f RT).2.1 = 3) := by
  intro k
  induction k with
  | zero => intro n f RT n0 e _ _ _; right; show n = 3; omega
  | succ k ih =>
    intro n f RT n0 e h2 g h0
    by_cases q : pMore D n f
    · rw [pRow_yes q] at g ⊢
      by_cases x : (pNum B (a + n) f RT).1 = true
      · rw [if_pos x] at g ⊢
        exact ih (n + 1) _ _ (by omega) (by omega) (by omega) g h0
      · rw [if_neg x] at g
        exact ff g
    · rw [pRow_no q]
      unfold pMore at q
      show n = 2 ∨ n = 3
      omega
theorem pRowAll_ok {B : Int → Int} {a : Int} {f RT : Int → Int} (h : rOk f) (hR : okR RT) (hD : f 23 = 0 ∨ f 23 = 2 ∨ f 23 = 3) : rOk (pRowAll B a f RT).2.1 ∧ okR (pRowAll B a f RT).2.2 ∧ (∀ s, (s < 16 ∨ 20 < s) → s ≠ 23 → (pRowAll B a f RT).2.1 s = f s) ∧ ((pRowAll B a f RT).1 = true → (pRowAll B a f RT).2.1 23 = 2 ∨ (pRowAll B a f RT).2.1 23 = 3) ∧ (f 23 ≠ 0 → (pRowAll B a f RT).2.1 23 = f 23) := by
  obtain ⟨x1, x2, x3, x4, x5⟩ := pRow_ok (B := B) (D := f 23) (a := a) 3 0 f RT h hR
  refine ⟨x1, x3, fun s hs h23 => ?_, fun g => ?_, fun hn => ?_⟩
  · show rD _ _ s = f s
    unfold rD
    rw [if_neg h23]
    exact x2 s hs
  · show (if f 23 = 0 then _ else f 23) = 2 ∨ (if f 23 = 0 then _ else f 23) = 3
    by_cases e : f 23 = 0
    · rw [if_pos e]
      exact pRow_good hD 3 0 f RT (by omega) rfl (by omega) g e
    · rw [if_neg e]; omega
  · show (if f 23 = 0 then _ else f 23) = f 23
    rw [if_neg hn]
/-- the rows of a table behind the first -/
def pTabF (B : Int → Int) (m : Int) : Nat → Int → (Int → Int) → (Int → Int) → Bool × (Int → Int) × (Int → Int)
  | 0, _, f, RT => (true, f, RT)
  | k + 1, i, f, RT => if i < f 23 then (if f 18 = 2 ∧ f 19 = 47 then (if (pRowAll B (9 * m + 3 * i) (tok f B) RT).1 = true then pTabF B m k (i + 1) (pRowAll B (9 * m + 3 * i) (tok f B) RT).2.1 (pRowAll B (9 * m + 3 * i) (tok f B) RT).2.2 else (false, (pRowAll B (9 * m + 3 * i) (tok f B) RT).2)) else (false, rBad f 1, RT)) else (true, f, RT)
def pTab0 (B : Int → Int) (f RT : Int → Int) : Bool × (Int → Int) × (Int → Int) :=
  if (pRowAll B (9 * f 24) f RT).1 = true then pTabF B (f 24) 2 1 (pRowAll B (9 * f 24) f RT).2.1 (pRowAll B (9 * f 24) f RT).2.2 else (false, (pRowAll B (9 * f 24) f RT).2)
/-- a table: whether it is good, the reader (one table more), the cells -/
def pTab (B : Int → Int) (f RT : Int → Int) : Bool × (Int → Int) × (Int → Int) := ((pTab0 B f RT).1, st1 (pTab0 B f RT).2.1 24 (f 24 + 1), (pTab0 B f RT).2.2)
theorem pTabF_ok {B : Int → Int} {m : Int} : ∀ (k : Nat) (i : Int) (f RT : Int → Int), rOk f → okR RT → (f 23 = 2 ∨ f 23 = 3) → rOk (pTabF B m k i f RT).2.1 ∧ okR (pTabF B m k i f RT).2.2 ∧ (∀ s, (s < 16 ∨ 20 < s) → (pTabF B m k i f RT).2.1 s = f s) := by
  intro k
  induction k with
  | zero => intro i f RT h hR _; exact ⟨h, hR, fun _ _ => rfl⟩
  | succ k ih =>
    intro i f RT h hR hD
    rw [pTabF]
    obtain ⟨t1, t2⟩ := tok_ok' B h
    have t23 : tok f B 23 = f 23 := t2 23 (by omega)
    obtain ⟨x1, x2, x3, x4, x5⟩ := pRowAll_ok (B := B) (a := 9 * m + 3 * i) t1 hR (by rw [t23]; omega)
    have y : ∀ s, (s < 16 ∨ 20 < s) → (pRowAll B (9 * m + 3 * i) (tok f B) RT).2.1 s = f s := by
      intro s hs
      by_cases e : s = 23
      · rw [e, x5 (by omega), t23]
      · rw [x3 s hs e, t2 s hs]
    by_cases c1 : i < f 23
    · rw [if_pos c1]
      by_cases c2 : f 18 = 2 ∧ f 19 = 47
      · rw [if_pos c2]
        by_cases c3 : (pRowAll B (9 * m + 3 * i) (tok f B) RT).1 = true
        · rw [if_pos c3]
          obtain ⟨w1, w2, w3⟩ := ih (i + 1) _ _ x1 x2 (x4 c3)
          exact ⟨w1, w2, fun s hs => (w3 s hs).trans (y s hs)⟩
        · rw [if_neg c3]
          exact ⟨x1, x2, y⟩
      · rw [if_neg c2]
        obtain ⟨b1, b2⟩ := rBad_ok 1 h
        exact ⟨b1, hR, b2⟩
    · rw [if_neg c1]
      exact ⟨h, hR, fun _ _ => rfl⟩
theorem pTab_ok {B : Int → Int} {f RT : Int → Int} (h : rOk f) (hR : okR RT) (hD : f 23 = 0 ∨ f 23 = 2 ∨ f 23 = 3) : rOk (pTab B f RT).2.1 ∧ okR (pTab B f RT).2.2 ∧ (∀ s, (s < 16 ∨ 20 < s) → s ≠ 23 → s ≠ 24 → (pTab B f RT).2.1 s = f s) ∧ (pTab B f RT).2.1 24 = f 24 + 1 ∧ ((pTab B f RT).1 = true → (pTab B f RT).2.1 23 = 2 ∨ (pTab B f RT).2.1 23 = 3) := by
  obtain ⟨x1, x2, x3, x4, x5⟩ := pRowAll_ok (B := B) (a := 9 * f 24) h hR hD
  have ofst : ∀ (g : Int → Int) (v : Int), rOk g → rOk (st1 g 24 v) := fun g v hg => hg
  by_cases c : (pRowAll B (9 * f 24) f RT).1 = true
  · obtain ⟨w1, w2, w3⟩ := pTabF_ok (B := B) (m := f 24) 2 1 _ _ x1 x2 (x4 c)
    have e0 : pTab0 B f RT = pTabF B (f 24) 2 1 (pRowAll B (9 * f 24) f RT).2.1 (pRowAll B (9 * f 24) f RT).2.2 := by unfold pTab0; rw [if_pos c]
    unfold pTab
    rw [e0]
    refine ⟨ofst _ _ w1, w2, fun s hs h23 h24 => ?_, rfl, fun _ => ?_⟩
    · show st1 _ 24 _ s = _
      unfold st1
      rw [if_neg h24, w3 s hs, x3 s hs h23]
    · have y := w3 23 (by omega)
      have y2 := x4 c
      rw [← y] at y2
      exact y2
  · have e0 : pTab0 B f RT = (false, (pRowAll B (9 * f 24) f RT).2) := by unfold pTab0; rw [if_neg c]
    unfold pTab
    rw [e0]
    refine ⟨ofst _ _ x1, x2, fun s hs h23 h24 => ?_, rfl, fun g => ff g⟩
    show st1 _ 24 _ s = _
    unfold st1
    rw [if_neg h24, x3 s hs h23]
section MTB
variable {d : Nat} {z : cm_Z} {I : cm_I}
theorem s_table (hz : mz z) (h : rOk (I 209)) (hR : okR (I 220)) (hD : I 209 23 = 0 ∨ I 209 23 = 2 ∨ I 209 23 = 3) (m0 : 0 ≤ I 209 24) (m1 : I 209 24 < 4) : mI (d + 5) m_Model_table [vR 12 209] z I fun r I1 => fr [209, 220, 221] I I1 ∧ I1 209 = (pTab (I 219) (I 209) (I 220)).2.1 ∧ I1 220 = (pTab (I 219) (I 209) (I 220)).2.2 ∧ I1 221 = st1 (I 221) (I 209 24) (I 209 16) ∧ r = if (pTab (I 219) (I 209) (I 220)).1 = true then 1 else 0 := by
  refine mr_table hz ⟨⟨m0, m1⟩, fun I2 e2 => ?_⟩
  obtain ⟨fe2, ge2⟩ := fr_eq_iu e2
  have a9 : I2 209 = I 209 := fe2 209 (by decide)
  have a20 : I2 220 = I 220 := fe2 220 (by decide)
  have a19 : I2 219 = I 219 := fe2 219 (by decide)
  rw [a9]
  -- the end
  have fin : ∀ (b : Int) (g : Bool) (f RT : Int → Int) (I0 I4 : cm_I), pTab0 (I 219) (I 209) (I 220) = (g, f, RT) → I0 209 = f → I0 220 = RT → f 24 = I 209 24 → fr [209, 220] I2 I0 → (b = if g = true then 1 else 0) → I4 = iu I0 209 24 (I0 209 24 + 1) → (b = 0 ∨ b = 1) ∧ qI z (fun r I1 => fr [209, 220, 221] I I1 ∧ I1 209 = (pTab (I 219) (I 209) (I 220)).2.1 ∧ I1 220 = (pTab (I 219) (I 209) (I 220)).2.2 ∧ I1 221 = st1 (I 221) (I 209 24) (I 209 16) ∧ r = if (pTab (I 219) (I 209) (I 220)).1 = true then 1 else 0) (some (vI b)) (I4, z) := by
    intro b g f RT I0 I4 hp e9 e20 e24 hf hb e4
    obtain ⟨fe4, ge4⟩ := fr_eq_iu e4
    refine ⟨by rw [hb]; split <;> omega, qI_mk ⟨?_, ?_, ?_, ?_, ?_⟩⟩
    · exact fr_trans (fr_mono fe2 (by decide)) (fr_trans (fr_mono hf (by decide)) (fr_mono fe4 (by decide)))
    · unfold pTab
      rw [hp, ge4, e9, e24]
      rfl
    · unfold pTab
      rw [hp, fe4 220 (by decide), e20]
    · rw [fe4 221 (by decide), hf 221 (by decide), ge2]
      rfl
    · unfold pTab
      rw [hp, hb]
  have key : ∀ (k : Nat) (i : Int) (f RT : Int → Int) (I0 : cm_I), i + k = 3 → 1 ≤ i → I0 209 = f → I0 220 = RT → rOk f → okR RT → f 24 = I 209 24 → (f 23 = 2 ∨ f 23 = 3) → fr [209, 220] I2 I0 → pTab0 (I 219) (I 209) (I 220) = pTabF (I 219) (I 209 24) k i f RT → cw (d + 4) cd_Model_table (qI z fun r I1 => fr [209, 220, 221] I I1 ∧ I1 209 = (pTab (I 219) (I 209) (I 220)).2.1 ∧ I1 220 = (pTab (I 219) (I 209) (I 220)).2.2 ∧ I1 221 = st1 (I 221) (I 209 24) (I 209 16) ∧ r = if (pTab (I 219) (I 209) (I 220)).1 = true then 1 else 0) 27 [some (vR 12 209), some (vI 1), some (vI i)] [] (I0, z) := by
    intro k
    induction k with
    | zero =>
      intro i f RT I0 ei i1 e9 e20 hf hRT e24 hD2 hfr hp
      refine mr_table_27 hz ⟨fun q => absurd q (by decide), fun _ => ⟨fun q => ⟨by rw [e9, e24]; exact ⟨by omega, by omega⟩, fun I4 e4 => fin 1 true f RT I0 I4 hp e9 e20 e24 hfr rfl e4⟩, fun q => by rw [e9] at q; omega⟩⟩
    | succ k ih =>
      intro i f RT I0 ei i1 e9 e20 hf hRT e24 hD2 hfr hp
      have e19 : I0 219 = I 219 := (hfr 219 (by decide)).trans a19
      rw [pTabF] at hp
      refine mr_table_27 hz ⟨fun q => absurd q (by decide), fun _ => ⟨fun q => ⟨by rw [e9, e24]; exact ⟨by omega, by omega⟩, fun I4 e4 => fin 1 true f RT I0 I4 ?_ e9 e20 e24 hfr rfl e4⟩, fun q => ?_⟩⟩
      · rw [e9] at q
        rw [hp, if_neg (by omega)]
      · rw [e9] at q
        rw [if_pos q] at hp
        refine mI_mono (s_sign hz (by rw [e9]; exact hf) 47) fun v6 I5 hs => ?_
        rw [e9, e19] at hs
        obtain ⟨t1, t2⟩ := tok_ok' (I 219) hf
        have t23 : tok f (I 219) 23 = f 23 := t2 23 (by omega)
        obtain ⟨x1, x2, x3, x4, x5⟩ := pRowAll_ok (B := I 219) (a := 9 * I 209 24 + 3 * i) t1 hRT (by rw [t23]; omega)
        unfold rIs at hs
        rcases hs with ⟨s1, s2, s3⟩ | ⟨s1, s2, s3⟩
        · rw [if_pos s2] at hp
          obtain ⟨fe5, ge5⟩ := fr_eq_iw s3
          have h5 : I5 209 24 = I 209 24 := by rw [ge5, t2 24 (by omega), e24]
          have h520 : I5 220 = RT := (fe5 220 (by decide)).trans e20
          have h519 : I5 219 = I 219 := (fe5 219 (by decide)).trans e19
          refine ⟨fun q0 => by omega, fun _ => ?_⟩
          rw [h5]
          refine ⟨⟨by omega, by omega⟩, ⟨by omega, by omega⟩, ⟨by omega, by omega⟩, mI_mono (s_rowOf hz (by rw [ge5]; exact t1) (by rw [h520]; exact hRT) (by rw [ge5, t23]; omega) (by omega) (by omega)) fun v12 I11 ⟨e11, ev⟩ => ?_⟩
          rw [ge5, h520, h519] at ev e11
          obtain ⟨fe11, g1, g2⟩ := mJ_fr e11
          have hfr' : fr [209, 220] I2 I11 := fr_trans hfr (fr_trans (fr_mono fe5 (by decide)) fe11)
          have h24 : (pRowAll (I 219) (9 * I 209 24 + 3 * i) (tok f (I 219)) RT).2.1 24 = I 209 24 := by rw [x3 24 (by omega) (by decide), t2 24 (by omega), e24]
          by_cases c3 : (pRowAll (I 219) (9 * I 209 24 + 3 * i) (tok f (I 219)) RT).1 = true
          · rw [if_pos c3] at hp ev
            rw [ev]
            refine ⟨fun q0 => absurd q0 (by decide), fun _ => ⟨⟨by omega, by omega⟩, ih (i + 1) _ _ I11 (by omega) (by omega) g1 g2 x1 x2 h24 (x4 c3) hfr' hp⟩⟩
          · rw [if_neg c3] at hp ev
            rw [ev]
            refine ⟨fun _ => ⟨⟨by omega, by omega⟩, ?_⟩, fun q0 => absurd rfl q0⟩
            exact mr_table_27 hz ⟨fun _ => ⟨by rw [g1, h24]; exact ⟨by omega, by omega⟩, fun I4 e4 => fin 0 false _ _ I11 I4 hp g1 g2 h24 hfr' rfl e4⟩, fun q0 => absurd rfl q0⟩
        · rw [if_neg s2] at hp
          obtain ⟨fe5, ge5⟩ := fr_eq_iw s3
          obtain ⟨b1, b2⟩ := rBad_ok 1 hf
          have h24 : I5 209 24 = I 209 24 := by rw [ge5, b2 24 (by omega), e24]
          refine ⟨fun _ => ⟨⟨by omega, by omega⟩, ?_⟩, fun q0 => absurd s1 q0⟩
          exact mr_table_27 hz ⟨fun _ => ⟨by rw [h24]; exact ⟨by omega, by omega⟩, fun I4 e4 => fin 0 false _ _ I5 I4 hp ge5 ((fe5 220 (by decide)).trans e20) (by rw [← ge5]; exact h24) (fr_trans hfr (fr_mono fe5 (by decide))) rfl e4⟩, fun q0 => absurd rfl q0⟩
  refine ⟨⟨by omega, by omega⟩, mI_mono (s_rowOf hz (by rw [a9]; exact h) (by rw [a20]; exact hR) (by rw [a9]; exact hD) (by omega) (by omega)) fun v5 I4 ⟨e4, ev⟩ => ?_⟩
  rw [a9, a20, a19] at e4 ev
  obtain ⟨x1, x2, x3, x4, x5⟩ := pRowAll_ok (B := I 219) (a := 9 * I 209 24) h hR hD
  obtain ⟨fe4, g1, g2⟩ := mJ_fr e4
  have h24 : (pRowAll (I 219) (9 * I 209 24) (I 209) (I 220)).2.1 24 = I 209 24 := x3 24 (by omega) (by decide)
  by_cases c : (pRowAll (I 219) (9 * I 209 24) (I 209) (I 220)).1 = true
  · rw [if_pos c] at ev
    rw [ev]
    exact key 2 1 _ _ I4 rfl (by omega) g1 g2 x1 x2 h24 (x4 c) fe4 (by unfold pTab0; rw [if_pos c])
  · rw [if_neg c] at ev
    rw [ev]
    exact mr_table_27 hz ⟨fun _ => ⟨by rw [g1, h24]; exact ⟨by omega, by omega⟩, fun I5 e5 => fin 0 false _ _ I4 I5 (by unfold pTab0; rw [if_neg c]) g1 g2 h24 fe4 rfl e5⟩, fun q0 => absurd rfl q0⟩
/-- the reader at the first n bytes -/
def rSt (B : Int → Int) (n : Int) (f : Int → Int) : Int → Int := tok (st1 (st1 (st1 (st1 f 15 n) 14 0) 17 0) 20 0) B
theorem rSt_ok {B : Int → Int} {n : Int} {f : Int → Int} (h0 : 0 ≤ n) (h1 : n ≤ 400) (h2 : 0 ≤ f 19) (h3 : f 19 ≤ 9999) : rOk (rSt B n f) ∧ rSt B n f 14 = 0 ∧ rSt B n f 15 = n ∧ rSt B n f 20 = 0 ∧ ∀ s, s < 14 ∨ 20 < s → rSt B n f s = f s := by
  obtain ⟨a, b, c, e⟩ := tok_ok B (f := st1 (st1 (st1 (st1 f 15 n) 14 0) 17 0) 20 0) (show (0 : Int) ≤ 0 by omega) (show (0 : Int) ≤ n from h0) (show n ≤ 400 from h1) h2 h3
  refine ⟨a, b 14 (by omega), b 15 (by omega), b 20 (by omega), fun s hs => ?_⟩
  rw [show rSt B n f s = _ from b s (by omega)]
  unfold st1
  rw [if_neg (by omega), if_neg (by omega), if_neg (by omega), if_neg (by omega)]
theorem s_starts (hz : mz z) {n : Int} (h0 : 0 ≤ n) (h1 : n ≤ 400) : mU (d + 3) m_Model_starts [vR 12 209, vI n] z I fun I1 => fr [209] I I1 ∧ I1 209 = rSt (I 219) n (I 209) := by
  refine mr_starts hz fun I1 e1 I2 e2 I3 e3 I4 e4 => ?_
  obtain ⟨f1, g1⟩ := fr_eq_iu e1
  obtain ⟨f2, g2⟩ := fr_eq_iu e2
  obtain ⟨f3, g3⟩ := fr_eq_iu e3
  obtain ⟨f4, g4⟩ := fr_eq_iu e4
  have f5 := fr_trans f1 (fr_trans f2 (fr_trans f3 f4))
  have g5 : I4 209 = st1 (st1 (st1 (st1 (I 209) 15 n) 14 0) 17 0) 20 0 := by rw [g4, g3, g2, g1]; rfl
  refine mU_mono (s_go hz (by rw [g5]; exact (show (0 : Int) ≤ 0 by omega)) (by rw [g5]; exact h1) (by rw [g5]; exact (show (0 : Int) ≤ 400 by omega))) fun I5 e5 => qU_mk ?_
  obtain ⟨f6, g6⟩ := fr_eq_iw e5
  exact ⟨fr_trans f5 f6, by rw [g6, g5, f5 219 (by decide)]; rfl⟩
end MTB
