/-! BASES by the reference: as far as they are asked for; series, base -/
def sqs (D : Int) : Nat → Int
  | 0 => 0
  | t + 1 => sqs D t + mMany D (t : Int) * mMany D (t : Int)
theorem sqs_chk : ∀ t : Fin 17, sqs 2 t.val ≤ 72000 ∧ sqs 3 t.val ≤ 72000 := by decide
theorem sqs_bd {D : Int} (hD : D = 2 ∨ D = 3) {t : Nat} (ht : t ≤ 16) : sqs D t ≤ 72000 := by
  have := sqs_chk ⟨t, by omega⟩
  rcases hD with rfl | rfl
  · exact this.1
  · exact this.2
/-- the base of a degree stands, ahead of E -/
def bsAt (D : Int) (T : Nat → cMat) (nt : Nat) (I : cm_I) (E t : Int) : Prop := ∃ (rows : Nat) (h : Nat → Nat) (B : Nat → Nat → cF), I 228 t = (rows : Int) ∧ rows ≤ (mMany D t).toNat ∧ isRB (mMany D t).toNat rows h B (iV D T nt t) ∧ 0 ≤ I 229 t ∧ I 229 t + mMany D t * rows ≤ E ∧ ∀ i k : Nat, i < rows → k < (mMany D t).toNat → I 230 (I 229 t + mMany D t * i + k) = fi (B i k)
def bsEnd (D : Int) (I : cm_I) : Int := if I 209 37 = 0 then 0 else I 229 (I 209 37 - 1) + I 228 (I 209 37 - 1) * mMany D (I 209 37 - 1)
def bsOk (T : Nat → cMat) (nt : Nat) (I : cm_I) : Prop := 0 ≤ I 209 37 ∧ I 209 37 ≤ 16 ∧ okR (I 226) ∧ okR (I 230) ∧ 0 ≤ bsEnd (I 209 1) I ∧ bsEnd (I 209 1) I ≤ sqs (I 209 1) (I 209 37).toNat ∧ ∀ t, 0 ≤ t → t < I 209 37 → bsAt (I 209 1) T nt I (bsEnd (I 209 1) I) t
/-- a row of a base as a polynomial -/
def bRow (D t : Int) (w : Nat → cF) : Int → Int := fun j => if mFrom D t ≤ j ∧ j < mFrom D (t + 1) then fi (w (j - mFrom D t).toNat) else 0
theorem vOk_bRow {D t : Int} (hD : D = 2 ∨ D = 3) (t0 : 0 ≤ t) (t1 : t ≤ 15) (w : Nat → cF) : vOk D (bRow D t w) := by
  obtain ⟨a, b, c, e, f, g⟩ := from_bds hD t0 t1
  refine ⟨fun k => ?_, fun k hk => ?_, mDeg_le hD (by omega) fun k k0 k1 hk => ?_⟩
  · unfold bRow
    have := fi_bd (w (k - mFrom D t).toNat)
    split <;> omega
  · unfold bRow
    rw [if_neg (by omega)]
  · unfold bRow
    rw [if_neg]
    intro x
    have := (mDg_lt hD (k := k) (t := t) k0 k1 t0).mp (by omega)
    omega
section MB2
variable {d : Nat} {z : cm_Z} {I : cm_I} {K : Int → Int → Int}
theorem bsAt_fr {D : Int} {T : Nat → cMat} {nt : Nat} {I I1 : cm_I} {E E1 t : Int} (h : bsAt D T nt I E t) (e8 : I1 228 t = I 228 t) (e9 : I1 229 t = I 229 t) (hE : E ≤ E1) (lo : ∀ x, x < E → I1 230 x = I 230 x) (hn : 0 ≤ mMany D t) : bsAt D T nt I1 E1 t := by
  obtain ⟨rows, hh, B, a1, a2, a3, a4, a5, a6⟩ := h
  refine ⟨rows, hh, B, by rw [e8]; exact a1, a2, a3, by rw [e9]; exact a4, by rw [e9]; omega, fun i k hi hk => ?_⟩
  rw [e9, lo, a6 i k hi hk]
  have : mMany D t * (i : Int) + mMany D t ≤ mMany D t * (rows : Int) := by
    have := Int.mul_le_mul_of_nonneg_left (show (i : Int) + 1 ≤ rows by omega) hn
    rw [Int.mul_add, Int.mul_one] at this
    exact this
  omega
theorem s_laysBases (hz : mz z) (hO : mvOk I) {nt : Nat} (hnt : I 209 9 = nt) (hn4 : nt ≤ 4) (hB : bsOk (mTab I) nt I) {up : Int} (u0 : 0 ≤ up) (u1 : up ≤ 15) : mU (d + 5) m_Model_laysBases [vR 12 209, vI up] z I fun I1 => fr [209, 224, 226, 227, 228, 229, 230, 231, 232] I I1 ∧ okR (I1 224) ∧ (∀ s, s ≠ 37 → I1 209 s = I 209 s) ∧ I 209 37 ≤ I1 209 37 ∧ up < I1 209 37 ∧ bsOk (mTab I) nt I1 := by
  have hD' : I 209 1 = 2 ∨ I 209 1 = 3 := hO.1
  generalize hDD : I 209 1 = D at hD'
  have key : ∀ (n : Nat) (I0 : cm_I), (up + 1 - I0 209 37).toNat = n → fr [209, 224, 226, 227, 228, 229, 230, 231, 232] I I0 → okR (I0 224) → (∀ s, s ≠ 37 → I0 209 s = I 209 s) → I 209 37 ≤ I0 209 37 → bsOk (mTab I) nt I0 → cw (d + 4) cd_Model_laysBases (qU z fun I1 => fr [209, 224, 226, 227, 228, 229, 230, 231, 232] I I1 ∧ okR (I1 224) ∧ (∀ s, s ≠ 37 → I1 209 s = I 209 s) ∧ I 209 37 ≤ I1 209 37 ∧ up < I1 209 37 ∧ bsOk (mTab I) nt I1) 0 [some (vR 12 209), some (vI up)] [] (I0, z) := by
    intro n
    induction n with
    | zero =>
      intro I0 en f0 o4 h9 hb hB0
      exact mr_laysBases_0 hz ⟨fun x => qU_mk ⟨f0, o4, h9, hb, x, hB0⟩, fun x => by omega⟩
    | succ n ih =>
      intro I0 en f0 o4 h9 hb hB0
      obtain ⟨b1, b2, b3, b4, b5, b6, b7⟩ := id hB0
      have e1 : I0 209 1 = D := by rw [h9 1 (by decide), hDD]
      rw [e1] at b5 b6 b7
      generalize hE : bsEnd D I0 = E at b5 b6 b7
      have bt : I0 209 37 ≤ 15 := by omega
      generalize ht : I0 209 37 = t at b1 b2 b6 b7 bt en hb
      have hmm : 0 ≤ mMany D t := mMany_pos D b1 (by omega)
      -- the base of degree t
      have go : ∀ (J : cm_I), fr [] I0 J → cw (d + 4) cd_Model_laysBases (qU z fun I1 => fr [209, 224, 226, 227, 228, 229, 230, 231, 232] I I1 ∧ okR (I1 224) ∧ (∀ s, s ≠ 37 → I1 209 s = I 209 s) ∧ I 209 37 ≤ I1 209 37 ∧ up < I1 209 37 ∧ bsOk (mTab I) nt I1) 61 [some (vR 12 209), some (vI up)] [vI E, vI t, vR 20 229] (J, z) := by
        intro J fJ
        have eJ : J = I0 := funext fun a => fJ a (by simp)
        rw [eJ]
        refine mr_laysBases_61 hz ⟨by decide, by decide⟩ ⟨⟨b1, show t < 16 by omega⟩, fun I2 e2 => ?_⟩
        obtain ⟨f2, g2⟩ := fr_eq_iu e2
        have e29 : I2 209 = I0 209 := f2 209 (by decide)
        have fA : fr [209, 224, 226, 227, 228, 229, 230, 231, 232] I I2 := fr_trans f0 (fr_mono f2 (by decide))
        have hO2 : mvOk I2 := by
          obtain ⟨m1, m2, m3, m4, m5, m6⟩ := hO
          have q1 : I2 209 1 = I 209 1 := by rw [e29, h9 1 (by decide)]
          refine ⟨by unfold mD; rw [q1]; exact m1, ?_, by rw [fA 216 (by decide)]; exact m3, by rw [fA 217 (by decide)]; exact m4, by rw [fA 218 (by decide)]; exact m5, by rw [f2 224 (by decide)]; exact o4⟩
          unfold mMon at m2 ⊢
          rw [q1, fA 210 (by decide), fA 211 (by decide), fA 212 (by decide)]
          exact m2
        have eT : mTab I2 = mTab I := by unfold mTab; rw [e29, h9 1 (by decide), fA 217 (by decide)]
        have sq : E + mMany D t * mMany D t ≤ 72000 := by
          have q := sqs_bd hD' (t := t.toNat + 1) (by omega)
          rw [sqs, show ((t.toNat : Nat) : Int) = t by omega] at q
          omega
        have q1 : I2 209 1 = D := by rw [e29]; exact e1
        rw [e29, ht]
        refine mI_mono (s_laysBase hz hO2 (by rw [f2 226 (by decide)]; exact b3) (by rw [f2 230 (by decide)]; exact b4) (nt := nt) (by rw [e29, h9 9 (by decide)]; exact hnt) hn4 b1 bt (bf := E) (by rw [g2]; exact if_pos rfl) b5 (by rw [q1]; exact sq)) fun v4 I3 ⟨f3, o34, o36, o30, lo, rows, h, B, er, hr, hB', hput⟩ => ⟨⟨b1, by omega⟩, fun I6 e6 => ?_⟩
        rw [q1, eT] at hB'
        rw [q1] at hr hput
        obtain ⟨f6, g6⟩ := fr_eq_iu e6
        have e69 : I6 209 = I0 209 := by rw [f6 209 (by decide), f3 209 (by decide), e29]
        rw [e69, ht]
        refine ⟨⟨by omega, by omega⟩, fun I8 e8 => ?_⟩
        obtain ⟨f8, g8⟩ := fr_eq_iu e8
        have e837 : I8 209 37 = t + 1 := by rw [g8]; exact if_pos rfl
        have e8s : ∀ s, s ≠ 37 → I8 209 s = I 209 s := fun s hs => by
          rw [g8]
          show (if s = 37 then _ else _) = _
          rw [if_neg hs, e69]
          exact h9 s hs
        have e81 : I8 209 1 = D := by rw [e8s 1 (by decide), hDD]
        have e828 : I8 228 = fun j => if j = t then (rows : Int) else I0 228 j := by rw [f8 228 (by decide), g6, f3 228 (by decide), f2 228 (by decide), er]
        have e829 : I8 229 = fun j => if j = t then E else I0 229 j := by rw [f8 229 (by decide), f6 229 (by decide), f3 229 (by decide), g2]
        have e830 : I8 230 = I3 230 := by rw [f8 230 (by decide), f6 230 (by decide)]
        have lo8 : ∀ x, x < E → I8 230 x = I0 230 x := fun x hx => by rw [e830, lo x hx, f2 230 (by decide)]
        have end8 : bsEnd D I8 = E + mMany D t * rows := by
          unfold bsEnd
          rw [e837, if_neg (by omega), show t + 1 - 1 = t by omega, e828, e829]
          show (if t = t then E else _) + (if t = t then (rows : Int) else _) * mMany D t = _
          rw [if_pos rfl, if_pos rfl, Int.mul_comm]
        have pos : 0 ≤ mMany D t * (rows : Int) := Int.mul_nonneg hmm (by omega)
        have rb : mMany D t * (rows : Int) ≤ mMany D t * mMany D t := Int.mul_le_mul_of_nonneg_left (by omega) hmm
        refine ih I8 (by omega) (fr_trans fA (fr_trans (fr_mono f3 (by decide)) (fr_trans (fr_mono f6 (by decide)) (fr_mono f8 (by decide))))) (by rw [f8 224 (by decide), f6 224 (by decide)]; exact o34) e8s (by omega) ⟨by omega, by omega, by rw [f8 226 (by decide), f6 226 (by decide)]; exact o36, by rw [e830]; exact o30, ?_, ?_, fun s s0 s1 => ?_⟩
        · rw [e81, end8]; omega
        · rw [e81, end8, e837, show (t + 1).toNat = t.toNat + 1 by omega, sqs, show ((t.toNat : Nat) : Int) = t by omega]
          omega
        · rw [e81, end8]
          by_cases es : s = t
          · rw [es]
            refine ⟨rows, h, B, by rw [e828]; exact if_pos rfl, hr, hB', ?_, ?_, fun i k hi hk => ?_⟩
            · rw [e829]
              show 0 ≤ if t = t then E else _
              rw [if_pos rfl]; exact b5
            · rw [e829]
              show (if t = t then E else _) + _ ≤ _
              rw [if_pos rfl]; omega
            · rw [e829, e830]
              show I3 230 ((if t = t then E else _) + _ + _) = _
              rw [if_pos rfl]
              exact hput i k hi hk
          · refine bsAt_fr (b7 s s0 (by omega)) ?_ ?_ (by omega) lo8 (mMany_pos D s0 (by omega))
            · rw [e828]; exact if_neg es
            · rw [e829]; exact if_neg es
      refine mr_laysBases_0 hz ⟨fun x => by omega, fun _ => ?_⟩
      rw [ht]
      refine ⟨fun x => ⟨⟨by omega, by omega⟩, ⟨by omega, by omega⟩, mI_mono (s_many hz (by omega) (by omega)) fun v4 I3 ⟨e3, ev4⟩ => ?_⟩, fun x => ?_⟩
      · rw [e1] at ev4
        have eE : I0 229 (t - 1) + I0 228 (t - 1) * v4 = E := by
          rw [← hE, ev4]
          unfold bsEnd
          rw [ht, if_neg x]
        obtain ⟨rows, h, B, a1, a2, a3, a4, a5, a6⟩ := b7 (t - 1) (by omega) (by omega)
        have p1 := mMany_pos D (t := t - 1) (by omega) (by omega)
        have p2 : 0 ≤ I0 228 (t - 1) * v4 := by rw [ev4]; exact Int.mul_nonneg (by omega) p1
        have p3 := sqs_bd hD' (t := t.toNat) (by omega)
        rw [eE, e3]
        exact ⟨⟨by omega, by omega⟩, ⟨by omega, by omega⟩, go I0 (fr_refl _ _)⟩
      · have eE : (0 : Int) = E := by
          rw [← hE]
          unfold bsEnd
          rw [ht, if_pos x]
        have := go I0 (fr_refl _ _)
        rw [← eE] at this
        exact this
  exact mr_laysBases hz (key _ I rfl (fr_refl _ _) hO.2.2.2.2.2 (fun _ _ => rfl) (Int.le_refl _) hB)
theorem s_laysBaseRow (hz : mz z) (hD : mD I) {a : Nat} (ha : mA a) (h9 : a ≠ 209) (h29 : a ≠ 229) (h30 : a ≠ 230) {x t : Int} (x0 : 0 ≤ x) (x1 : x + 1140 ≤ mLen a) (x2 : x ≤ 1000000) (t0 : 0 ≤ t) (t1 : t ≤ 15) {rows i : Nat} {B : Nat → Nat → cF} (hi : i < rows) (b0 : 0 ≤ I 229 t) (b1 : I 229 t + mMany (I 209 1) t * rows ≤ 72000) (hB : ∀ i k : Nat, i < rows → k < (mMany (I 209 1) t).toNat → I 230 (I 229 t + mMany (I 209 1) t * i + k) = fi (B i k)) : mU (d + 2) m_Model_laysBaseRow [vR 12 209, vI t, vI (i : Int), vR 20 a, vI x] z I fun I1 => fr [a] I I1 ∧ isRow (I1 a) x (bRow (I 209 1) t (B i)) ∧ (∀ j, ¬ (x ≤ j ∧ j < x + 1140) → I1 a j = I a j) := by
  have hD' : I 209 1 = 2 ∨ I 209 1 = 3 := hD
  obtain ⟨w1, w2, w3, w4, w5, w6⟩ := from_bds hD' t0 t1
  have hs := mSz_bd (I 209 1)
  have ni : mMany (I 209 1) t * (i : Int) + mMany (I 209 1) t ≤ mMany (I 209 1) t * rows := by
    have := Int.mul_le_mul_of_nonneg_left (show (i : Int) + 1 ≤ rows by omega) (show 0 ≤ mMany (I 209 1) t by omega)
    rw [Int.mul_add, Int.mul_one] at this
    exact this
  have np : 0 ≤ mMany (I 209 1) t * (i : Int) := Int.mul_nonneg (by omega) (by omega)
  refine mr_laysBaseRow hz (mU_mono (s_clears hz ha x0 x1 x2) fun I1 e1 => ?_)
  obtain ⟨f1, g1⟩ := fr_eq_iw e1
  have key : ∀ (n c : Nat) (I0 : cm_I), (c : Int) + n = mMany (I 209 1) t → fr [a] I I0 → (∀ j, ¬ (x ≤ j ∧ j < x + 1140) → I0 a j = I a j) → (∀ k, 0 ≤ k → k < 1140 → I0 a (x + k) = if mFrom (I 209 1) t ≤ k ∧ k < mFrom (I 209 1) t + c then fi (B i (k - mFrom (I 209 1) t).toNat) else 0) → cw (d + 1) cd_Model_laysBaseRow (qU z fun I1 => fr [a] I I1 ∧ isRow (I1 a) x (bRow (I 209 1) t (B i)) ∧ (∀ j, ¬ (x ≤ j ∧ j < x + 1140) → I1 a j = I a j)) 9 [some (vR 12 209), some (vI t), some (vI (i : Int)), some (vR 20 a), some (vI x), some (vI (c : Int))] [] (I0, z) := by
    intro n
    induction n with
    | zero =>
      intro c I0 ec f0 out row
      have e9 : I0 209 = I 209 := f0 209 (by simp [Ne.symm h9])
      refine mr_laysBaseRow_9 hz ha (mI_mono (s_many hz t0 (by omega)) fun v2 I2 ⟨e2, ev⟩ => ?_)
      rw [e2]
      rw [e9] at ev
      refine ⟨fun _ => qU_mk ⟨f0, fun k k0 k1 => ?_, out⟩, fun q => by omega⟩
      rw [row k k0 k1]
      unfold bRow
      rw [show mFrom (I 209 1) t + (c : Int) = mFrom (I 209 1) (t + 1) by omega]
    | succ n ih =>
      intro c I0 ec f0 out row
      have e9 : I0 209 = I 209 := f0 209 (by simp [Ne.symm h9])
      have e29 : I0 229 = I 229 := f0 229 (by simp [Ne.symm h29])
      have e30 : I0 230 = I 230 := f0 230 (by simp [Ne.symm h30])
      refine mr_laysBaseRow_9 hz ha (mI_mono (s_many hz t0 (by omega)) fun v2 I2 ⟨e2, ev⟩ => ?_)
      rw [e2]
      rw [e9] at ev
      refine ⟨fun q => by omega, fun _ => mI_mono (s_from hz t0 (by omega)) fun v4 I3 ⟨e3, ev4⟩ => ?_⟩
      rw [e3]
      rw [e9] at ev4
      rw [ev4]
      refine ⟨⟨by omega, by omega⟩, ⟨by omega, by omega⟩, ⟨t0, by omega⟩, mI_mono (s_many hz t0 (by omega)) fun v9 I8 ⟨e8, ev9⟩ => ?_⟩
      rw [e8]
      rw [e9] at ev9
      rw [ev9, e29, e30, hB i c hi (by omega)]
      refine ⟨⟨by omega, by omega⟩, ⟨by omega, by omega⟩, ⟨by omega, by omega⟩, ⟨by omega, by omega⟩, ⟨by omega, by omega⟩, fun I15 e15 => ⟨⟨by omega, by omega⟩, ?_⟩⟩
      obtain ⟨f15, g15⟩ := fr_eq_iu e15
      have := ih (c + 1) I15 (by omega) (fr_trans f0 f15) (fun j hj => ?_) (fun k k0 k1 => ?_)
      · rw [show ((c + 1 : Nat) : Int) = (c : Int) + 1 by omega] at this
        exact this
      · rw [g15]
        show (if j = _ then _ else _) = _
        rw [if_neg (by omega)]
        exact out j hj
      · rw [g15]
        show (if x + k = _ then _ else _) = _
        by_cases e : k = mFrom (I 209 1) t + c
        · rw [if_pos (by omega), if_pos (by omega), show (k - mFrom (I 209 1) t).toNat = c by omega]
        · rw [if_neg (by omega), row k k0 k1]
          by_cases q : mFrom (I 209 1) t ≤ k ∧ k < mFrom (I 209 1) t + c
          · rw [if_pos q, if_pos (by omega)]
          · rw [if_neg q, if_neg (by omega)]
  refine key (mMany (I 209 1) t).toNat 0 I1 (by omega) f1 (fun j hj => ?_) (fun k k0 k1 => ?_)
  · rw [g1]
    unfold fillF
    rw [if_neg (by omega)]
  · rw [g1]
    unfold fillF
    rw [if_pos (by omega), if_neg (by omega)]
end MB2
