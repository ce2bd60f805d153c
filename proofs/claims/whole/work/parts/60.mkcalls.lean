/-! the calls factor, plus, product, term of the reference -/
theorem mFrom_chk : ∀ t : Fin 18, (mFrom 2 (t.val : Int) + mMany 2 (t.val : Int) = mFrom 2 ((t.val : Int) + 1)) ∧ (mFrom 3 (t.val : Int) + mMany 3 (t.val : Int) = mFrom 3 ((t.val : Int) + 1)) := by decide
theorem mFrom_succ {D t : Int} (hD : D = 2 ∨ D = 3) (t0 : 0 ≤ t) (t1 : t ≤ 17) : mFrom D t + mMany D t = mFrom D (t + 1) := by
  have := mFrom_chk ⟨t.toNat, by omega⟩
  rw [show (((⟨t.toNat, by omega⟩ : Fin 18).val : Nat) : Int) = t by show ((t.toNat : Nat) : Int) = t; omega] at this
  rcases hD with rfl | rfl
  · exact this.1
  · exact this.2
theorem mMany_pos (D : Int) {t : Int} (t0 : 0 ≤ t) (t1 : t ≤ 1000) : 0 ≤ mMany D t := by
  unfold mMany
  have := mul_bd (x := t + 1) (y := t + 2) (X := 1001) (Y := 1002) (by omega) (by omega) (by omega) (by omega)
  split <;> omega
abbrev kFit (k : Int) : Prop := 0 ≤ k ∧ k ≤ 5
def aFactor (D : Int) (K : Int → Int → Int) (k a b c : Int) : Int :=
  if (0 ≤ k ∧ k ≤ 5) ∧ (0 ≤ a ∧ a ≤ 15) ∧ (0 ≤ b ∧ b ≤ 15) ∧ (0 ≤ c ∧ c ≤ (if D = 2 then 0 else 15)) then (if 15 < a + b + c then 0 else K k (mAt D a b c)) else -1
def tmScan (v : Int → Int) : Nat → Int → Int → Int ⊕ Int
  | 0, _, l => .inr l
  | n + 1, m, l => if v m = 0 then tmScan v n (m + 1) l else if l = 0 then .inl m else tmScan v n (m + 1) (l - 1)
def tmAll (D : Int) (v : Int → Int) : Nat → Int → Option Int
  | 0, _ => none
  | t + 1, l => match tmScan v (mMany D (t : Int)).toNat (mFrom D (t : Int)) l with
    | .inl m => some m
    | .inr l' => tmAll D v t l'
def tmVal (D : Int) (v : Int → Int) (m what : Int) : Int := if what = 0 then v m else if what = 1 then mEa D m else if what = 2 then mEb D m else mEc D m
def aTerm (D : Int) (K : Int → Int → Int) (k i what : Int) : Option Int :=
  if (0 ≤ k ∧ k ≤ 5) ∧ 0 ≤ i ∧ (0 ≤ what ∧ what ≤ 3) then (match tmAll D (K k) 16 i with
    | some m => some (tmVal D (K k) m what)
    | none => none) else none
section MKC
variable {d : Nat} {z : cm_Z} {I : cm_I} {K : Int → Int → Int}
theorem s_factor (hz : mz z) (hD : mD I) (hK : kOk I K) (k a b c : Int) : mI (d + 3) m_Model_factor [vR 12 209, vI k, vI a, vI b, vI c] z I fun r I1 => I1 = iu I 209 0 0 ∧ r = aFactor (I 209 1) K k a b c := by
  have hD' : I 209 1 = 2 ∨ I 209 1 = 3 := hD
  refine mr_factor hz fun I1 e1 => ?_
  obtain ⟨f1, g1⟩ := fr_eq_iu e1
  have h1 : I1 209 1 = I 209 1 := by rw [g1]; rfl
  have no : ∀ I2, I2 = I1 → ¬ ((0 ≤ k ∧ k ≤ 5) ∧ (0 ≤ a ∧ a ≤ 15) ∧ (0 ≤ b ∧ b ≤ 15) ∧ (0 ≤ c ∧ c ≤ (if I 209 1 = 2 then 0 else 15))) → qI z (fun r I1 => I1 = iu I 209 0 0 ∧ r = aFactor (I 209 1) K k a b c) (some (vI (-1))) (I2, z) := by
    intro I2 e2 hn
    refine qI_mk ⟨by rw [e2, e1], ?_⟩
    unfold aFactor
    rw [if_neg hn]
  refine mI_mono (s_isKept hz k) fun v3 I2 ⟨e2, ev⟩ => ?_
  rw [e2]
  refine ⟨fun q => no I1 rfl fun x => by rw [if_pos x.1] at ev; omega, fun q3 => mI_mono (s_within hz a 0 15) fun v5 I4 ⟨e4, ev5⟩ => ?_⟩
  rw [e4]
  refine ⟨fun q => no I1 rfl fun x => by rw [if_pos x.2.1] at ev5; omega, fun q5 => mI_mono (s_within hz b 0 15) fun v7 I6 ⟨e6, ev7⟩ => ?_⟩
  rw [e6]
  refine ⟨fun q => no I1 rfl fun x => by rw [if_pos x.2.2.1] at ev7; omega, fun q7 => ?_⟩
  have ck : 0 ≤ k ∧ k ≤ 5 := Classical.byContradiction fun x => q3 (by rw [ev, if_neg x])
  have ca : 0 ≤ a ∧ a ≤ 15 := Classical.byContradiction fun x => q5 (by rw [ev5, if_neg x])
  have cb : 0 ≤ b ∧ b ≤ 15 := Classical.byContradiction fun x => q7 (by rw [ev7, if_neg x])
  have fin : ∀ s0 : Int, (s0 = if I 209 1 = 2 then 0 else 15) → cw (d + 2) cd_Model_factor (qI z fun r I1 => I1 = iu I 209 0 0 ∧ r = aFactor (I 209 1) K k a b c) 50 [some (vR 12 209), some (vI k), some (vI a), some (vI b), some (vI c)] [vI s0, vI 0, vI c] (I1, z) := by
    intro s0 hs
    refine mr_factor_50 hz (mI_mono (s_within hz c 0 s0) fun v2 I8 ⟨e8, ev2⟩ => ?_)
    rw [e8]
    refine ⟨fun q => ?_, fun q => no I1 rfl fun x => by rw [hs, if_pos x.2.2.2] at ev2; omega⟩
    have cc : 0 ≤ c ∧ c ≤ s0 := Classical.byContradiction fun x => q (by rw [ev2, if_neg x])
    have c15 : s0 ≤ 15 := by rw [hs]; split <;> omega
    rw [hs] at cc
    refine ⟨⟨by omega, by omega⟩, ⟨by omega, by omega⟩, fun q2 => ⟨⟨by omega, by omega⟩, mI_mono (s_at hz ca.1 cb.1 cc.1 (by omega)) fun v7 I9 ⟨e9, ev9⟩ => ?_⟩, fun q2 => qI_mk ⟨e1, ?_⟩⟩
    · rw [e9]
      rw [h1] at ev9
      obtain ⟨_, _, _, m4, m5⟩ := mAt_E hD' ca.1 cb.1 cc.1 (by omega) (fun e => by have := cc.2; rw [if_pos e] at this; omega)
      have hs2 := mSz_bd (I 209 1)
      refine ⟨⟨by omega, by omega⟩, ⟨by omega, by omega⟩, qI_mk ⟨e1, ?_⟩⟩
      unfold aFactor
      rw [if_pos ⟨ck, ca, cb, cc⟩, if_neg (by omega), f1 213 (by decide), ev9]
      exact (hK.2 k ck.1 ck.2).1 _ m4 (by omega)
    · unfold aFactor
      rw [if_pos ⟨ck, ca, cb, cc⟩, if_pos q2]
  rw [h1]
  exact ⟨fun q => fin 15 (by rw [if_neg q]), fun q => fin 0 (by rw [if_pos q])⟩
/-- three that are kept; a value is put -/
def putPost (I : cm_I) (K : Int → Int → Int) (ok : Prop) (to : Int) (v : Int → Int) (no : Int) (r : Int) (I1 : cm_I) : Prop := fr [209, 213, 216] I I1 ∧ I1 209 = st1 (I 209) 0 0 ∧ ((ok ∧ kOk I1 (kSet K to v) ∧ r = vTerms v) ∨ (¬ ok ∧ I1 213 = I 213 ∧ r = no))
theorem put_end (hz : mz z) (hK : kOk I K) {to : Int} (t0 : 0 ≤ to) (t1 : to ≤ 5) {v : Int → Int} {J : cm_I} (f : fr [209, 216] I J) (g : J 209 = st1 (I 209) 0 0) (hr : isRow (J 216) 0 v) (hv : vOk (I 209 1) v) {P : Int → cm_I → Prop} (k : ∀ I1, fr [209, 213, 216] I I1 → I1 209 = st1 (I 209) 0 0 → kOk I1 (kSet K to v) → P (vTerms v) I1) : mU (d + 1) m_Model_copies [vR 20 216, vI 0, vR 20 213, vI (1140 * to)] z J fun I2 => mI (d + 1) m_Model_terms [vR 12 209, vI (1140 * to)] z I2 P := by
  refine mU_mono (s_copies hz mA216 mA213 (by omega) (show _ ≤ (6840 : Int) by omega) (by omega) (by omega) (show _ ≤ (1140 : Int) by omega) (by omega) (by decide)) fun I2 e2 => ?_
  obtain ⟨f2, g2⟩ := fr_eq_iw e2
  have w9 : I2 209 = st1 (I 209) 0 0 := (f2 209 (by decide)).trans g
  have kk : kOk I2 (kSet K to v) := kOk_put hK t0 t1 (by rw [g2, f 213 (by decide)]) hr hv (by rw [w9]; rfl)
  refine mI_mono (s_terms hz (by omega) (by omega)) fun r I3 ⟨e3, er⟩ => ?_
  have hrow := (kk.2 to t0 t1).1
  rw [kSet_at] at hrow
  rw [e3, er, isRow_terms hrow]
  exact k I2 (fr_trans (fr_mono f (by decide)) (fr_mono f2 (by decide))) w9 kk
theorem s_plus (hz : mz z) (hD : mD I) (hK : kOk I K) (a b f to : Int) : mI (d + 3) m_Model_plus [vR 12 209, vI a, vI b, vI f, vI to] z I (putPost I K (kFit a ∧ kFit b ∧ kFit to) to (vAdd (f % 2521) (K a) (K b)) (-1)) := by
  refine mr_plus hz fun I1 e1 => ?_
  obtain ⟨f1, g1⟩ := fr_eq_iu e1
  have no : ¬ (kFit a ∧ kFit b ∧ kFit to) → qI z (putPost I K (kFit a ∧ kFit b ∧ kFit to) to (vAdd (f % 2521) (K a) (K b)) (-1)) (some (vI (-1))) (I1, z) := fun hn => qI_mk ⟨fr_mono f1 (by decide), g1, Or.inr ⟨hn, f1 213 (by decide), rfl⟩⟩
  refine mI_mono (s_isKept hz a) fun v3 I2 ⟨e2, ev3⟩ => ?_
  rw [e2]
  refine ⟨fun q => no fun x => by rw [if_pos x.1] at ev3; omega, fun q3 => mI_mono (s_isKept hz b) fun v5 I4 ⟨e4, ev5⟩ => ?_⟩
  rw [e4]
  refine ⟨fun q => no fun x => by rw [if_pos x.2.1] at ev5; omega, fun q5 => mI_mono (s_isKept hz to) fun v7 I6 ⟨e6, ev7⟩ => ?_⟩
  rw [e6]
  refine ⟨fun q7 => mI_mono (s_of hz f) fun v9 I8 ⟨e8, ev9⟩ => ?_, fun q => no fun x => by rw [if_pos x.2.2] at ev7; omega⟩
  rw [e8, ev9]
  have ca : 0 ≤ a ∧ a ≤ 5 := Classical.byContradiction fun x => q3 (by rw [ev3, if_neg x])
  have cb : 0 ≤ b ∧ b ≤ 5 := Classical.byContradiction fun x => q5 (by rw [ev5, if_neg x])
  have ct : 0 ≤ to ∧ to ≤ 5 := Classical.byContradiction fun x => q7 (by rw [ev7, if_neg x])
  have hb : 0 ≤ f % 2521 ∧ f % 2521 < 2521 := by omega
  generalize f % 2521 = y at hb
  have key : ∀ (n : Nat) (k : Int) (I0 : cm_I) (z3 : Option cm_V), 0 ≤ k → k + n = 1140 → fr [216] I1 I0 → (∀ j, 0 ≤ j → j < k → I0 216 j = vAdd y (K a) (K b) j) → cw (d + 2) cd_Model_plus (qI z (putPost I K (kFit a ∧ kFit b ∧ kFit to) to (vAdd y (K a) (K b)) (-1))) 42 [some (vR 12 209), some (vI a), some (vI b), z3, some (vI to), some (vI y), some (vI k)] [] (I0, z) := by
    intro n
    induction n with
    | zero =>
      intro k I0 z3 k0 ek hf hr
      refine mr_plus_42 hz ⟨fun _ => ⟨⟨by omega, by omega⟩, put_end hz hK ct.1 ct.2 (fr_trans (fr_mono f1 (by decide)) (fr_mono hf (by decide))) ((hf 209 (by decide)).trans g1) (fun j j0 j1 => by rw [show (0 : Int) + j = j by omega]; exact hr j j0 (by omega)) (vOk_add hD y (hK.2 a ca.1 ca.2).2 (hK.2 b cb.1 cb.2).2) fun I3 w1 w2 w3 => qI_mk ⟨w1, w2, Or.inl ⟨⟨ca, cb, ct⟩, w3, rfl⟩⟩⟩, fun q => by omega⟩
    | succ n ih =>
      intro k I0 z3 k0 ek hf hr
      have e13 : I0 213 = I 213 := (hf 213 (by decide)).trans (f1 213 (by decide))
      have oa := hK.1 (1140 * a + k)
      have ob := hK.1 (1140 * b + k)
      have bm := mul_bd (x := y) (y := I 213 (1140 * b + k)) (X := 2520) (Y := 2520) hb.1 (by omega) ob.1 (by omega)
      refine mr_plus_42 hz ⟨fun q => by omega, fun q => ?_⟩
      rw [e13]
      refine ⟨⟨by omega, by omega⟩, ⟨by omega, by omega⟩, ⟨by omega, by omega⟩, ⟨by omega, by omega⟩, ⟨by omega, by omega⟩, ⟨by omega, by omega⟩, ⟨by omega, by omega⟩, ⟨by omega, by omega⟩, ⟨by omega, by omega⟩, fun I14 e14 => ⟨⟨by omega, by omega⟩, ?_⟩⟩
      obtain ⟨f14, g14⟩ := fr_eq_iu e14
      refine ih (k + 1) I14 z3 (by omega) (by omega) (fr_trans hf f14) fun j j0 j1 => ?_
      rw [g14]
      show (if j = k then _ else _) = _
      by_cases e : j = k
      · rw [if_pos e, e, tmod_pos (by omega), (hK.2 a ca.1 ca.2).1 k k0 (by omega), (hK.2 b cb.1 cb.2).1 k k0 (by omega)]
        unfold vAdd
        rw [if_pos ⟨k0, by omega⟩]
      · rw [if_neg e]
        exact hr j j0 (by omega)
  exact key 1140 0 I1 _ (by omega) rfl (fr_refl _ _) fun j j0 j1 => by omega
theorem s_product_ (hz : mz z) (hD : mD I) (hm : mMon I) (hK : kOk I K) (a b to : Int) : mI (d + 4) m_Model_product_ [vR 12 209, vI a, vI b, vI to] z I (putPost I K ((kFit a ∧ kFit b ∧ kFit to) ∧ mDeg (I 209 1) (K a) 0 + mDeg (I 209 1) (K b) 0 ≤ 15) to (vMul (I 209 1) (K a) (K b)) (if kFit a ∧ kFit b ∧ kFit to then -2 else -1)) := by
  have hD' : I 209 1 = 2 ∨ I 209 1 = 3 := hD
  refine mr_product_ hz fun I1 e1 => ?_
  obtain ⟨f1, g1⟩ := fr_eq_iu e1
  have h1 : I1 209 1 = I 209 1 := by rw [g1]; rfl
  have hD1 : mD I1 := by unfold mD; rw [h1]; exact hD
  have hm1 : mMon I1 := by
    unfold mMon at hm ⊢
    rw [h1, f1 210 (by decide), f1 211 (by decide), f1 212 (by decide)]
    exact hm
  generalize hX : putPost I K ((kFit a ∧ kFit b ∧ kFit to) ∧ mDeg (I 209 1) (K a) 0 + mDeg (I 209 1) (K b) 0 ≤ 15) to (vMul (I 209 1) (K a) (K b)) (if kFit a ∧ kFit b ∧ kFit to then -2 else -1) = X
  have no : ¬ (kFit a ∧ kFit b ∧ kFit to) → qI z X (some (vI (-1))) (I1, z) := fun hn => qI_mk (by rw [← hX]; exact ⟨fr_mono f1 (by decide), g1, Or.inr ⟨fun x => hn x.1, f1 213 (by decide), by rw [if_neg hn]⟩⟩)
  refine mI_mono (s_isKept hz a) fun v3 I2 ⟨e2, ev3⟩ => ?_
  rw [e2]
  refine ⟨fun q => no fun x => by rw [if_pos x.1] at ev3; omega, fun q3 => mI_mono (s_isKept hz b) fun v5 I4 ⟨e4, ev5⟩ => ?_⟩
  rw [e4]
  refine ⟨fun q => no fun x => by rw [if_pos x.2.1] at ev5; omega, fun q5 => mI_mono (s_isKept hz to) fun v7 I6 ⟨e6, ev7⟩ => ?_⟩
  rw [e6]
  refine ⟨fun q7 => ?_, fun q => no fun x => by rw [if_pos x.2.2] at ev7; omega⟩
  have ca : 0 ≤ a ∧ a ≤ 5 := Classical.byContradiction fun x => q3 (by rw [ev3, if_neg x])
  have cb : 0 ≤ b ∧ b ≤ 5 := Classical.byContradiction fun x => q5 (by rw [ev5, if_neg x])
  have ct : 0 ≤ to ∧ to ≤ 5 := Classical.byContradiction fun x => q7 (by rw [ev7, if_neg x])
  have c3 : kFit a ∧ kFit b ∧ kFit to := ⟨ca, cb, ct⟩
  obtain ⟨ra, va⟩ := hK.2 a ca.1 ca.2
  obtain ⟨rb, vb⟩ := hK.2 b cb.1 cb.2
  have e13 : I1 213 = I 213 := f1 213 (by decide)
  have l3 : mLen 213 = 6840 := rfl
  have da : mDeg (I1 209 1) (I1 213) (1140 * a) = mDeg (I 209 1) (K a) 0 := by rw [h1, e13, isRow_deg ra]
  have db : mDeg (I1 209 1) (I1 213) (1140 * b) = mDeg (I 209 1) (K b) 0 := by rw [h1, e13, isRow_deg rb]
  have ba := mDeg_bd hD (K a) 0
  have bb := mDeg_bd hD (K b) 0
  have k110 : ∀ z4 : Option cm_V, mDeg (I 209 1) (K a) 0 + mDeg (I 209 1) (K b) 0 ≤ 15 → cw (d + 3) cd_Model_product_ (qI z X) 110 [some (vR 12 209), some (vI a), some (vI b), some (vI to), z4] [] (I1, z) := by
    intro z4 hd
    refine mr_product__110 hz ⟨⟨by omega, by omega⟩, ⟨by omega, by omega⟩, mU_mono (s_multiplies hz hD1 hm1 mA213 mA213 mA216 (by decide) (by decide) (by decide) (by omega) (by omega) (by omega) (by omega) (by omega) (by omega) (by omega) (show _ ≤ (1140 : Int) by omega) (by omega) (by rw [e13]; exact hK.1) (by rw [e13]; exact hK.1) (by rw [da, db]; omega)) fun I3 e3 => ?_⟩
    obtain ⟨f3, g3⟩ := fr_eq_iw e3
    rw [h1, e13, isRow_mul ra rb] at g3
    refine ⟨⟨by omega, by omega⟩, put_end hz hK ct.1 ct.2 (fr_trans (fr_mono f1 (by decide)) (fr_mono f3 (by decide))) ((f3 209 (by decide)).trans g1) (v := vMul (I 209 1) (K a) (K b)) (fun j j0 j1 => ?_) (vOk_mul hD' hd).1 fun I5 w1 w2 w3 => qI_mk (by rw [← hX]; exact ⟨w1, w2, Or.inl ⟨⟨c3, hd⟩, w3, rfl⟩⟩)⟩
    rw [g3]
    unfold setR vMul
    rw [if_pos (by omega), if_pos ⟨j0, j1⟩]
    congr 1
    omega
  have k68 : ∀ (s0 : Int) (z4 : Option cm_V), (s0 ≠ 0 → mDeg (I 209 1) (K a) 0 + mDeg (I 209 1) (K b) 0 ≤ 15) → cw (d + 3) cd_Model_product_ (qI z X) 68 [some (vR 12 209), some (vI a), some (vI b), some (vI to), z4] [vI s0] (I1, z) := by
    intro s0 z4 hs
    refine mr_product__68 hz ⟨fun q => k110 _ (hs q), fun q => ⟨⟨by omega, by omega⟩, mI_mono (s_degree hz hD1 hm1 mA213 (by omega) (by omega) (by omega)) fun v3 I2 ⟨e2, ew3⟩ => ?_⟩⟩
    rw [e2]
    refine ⟨⟨by omega, by omega⟩, mI_mono (s_degree hz hD1 hm1 mA213 (by omega) (by omega) (by omega)) fun v6 I5 ⟨e5, ew6⟩ => ?_⟩
    rw [e5]
    rw [da] at ew3
    rw [db] at ew6
    refine ⟨⟨by omega, by omega⟩, fun q2 => k110 _ (by omega), fun q2 => qI_mk ?_⟩
    rw [← hX]
    exact ⟨fr_mono f1 (by decide), g1, Or.inr ⟨fun x => by have := x.2; omega, e13, by rw [if_pos c3]⟩⟩
  have nil : ∀ (x : Int) (u : Int → Int), isRow (I 213) x u → (∀ k : Int, 0 ≤ k → k < 1140 → I1 213 (x + k) = 0) → mDeg (I 209 1) u 0 = 0 := fun x u hu hz0 => mDeg_nil hD' fun k k0 k1 => by
    have := mSz_bd (I 209 1)
    rw [show (0 : Int) + k = k by omega, ← hu k k0 (by omega), ← e13]
    exact hz0 k k0 (by omega)
  refine ⟨⟨by omega, by omega⟩, mI_mono (s_isNothing hz mA213 (by omega) (by omega) (by omega)) fun v10 I9 ⟨e9, b10, i10⟩ => ?_⟩
  rw [e9]
  refine ⟨fun q => k68 1 _ fun _ => ?_, fun q => ⟨⟨by omega, by omega⟩, mI_mono (s_isNothing hz mA213 (by omega) (by omega) (by omega)) fun v13 I12 ⟨e12, b13, i13⟩ => ?_⟩⟩
  · have := nil _ _ ra (i10.mp (by omega))
    have := vb.2.2
    omega
  · rw [e12]
    refine ⟨fun q2 => k68 0 _ fun x => absurd rfl x, fun q2 => k68 1 _ fun _ => ?_⟩
    have := nil _ _ rb (i13.mp (by omega))
    have := va.2.2
    omega
theorem s_term (hz : mz z) (hD : mD I) (hm : mMon I) (hK : kOk I K) (k i what : Int) (hi : i ≤ 2147483647) : mI (d + 3) m_Model_term [vR 12 209, vI k, vI i, vI what] z I fun r I1 => fr [209] I I1 ∧ ((aTerm (I 209 1) K k i what = some r ∧ I1 209 = st1 (I 209) 0 0) ∨ (aTerm (I 209 1) K k i what = none ∧ I1 209 = st1 (I 209) 0 1)) := by
  have hD' : I 209 1 = 2 ∨ I 209 1 = 3 := hD
  generalize hX : (fun (r : Int) (I1 : cm_I) => fr [209] I I1 ∧ ((aTerm (I 209 1) K k i what = some r ∧ I1 209 = st1 (I 209) 0 0) ∨ (aTerm (I 209 1) K k i what = none ∧ I1 209 = st1 (I 209) 0 1))) = X
  refine mr_term hz fun I1 e1 => ?_
  obtain ⟨f1, g1⟩ := fr_eq_iu e1
  have h1 : I1 209 1 = I 209 1 := by rw [g1]; rfl
  have no : aTerm (I 209 1) K k i what = none → qI z X (some (vI 0)) (I1, z) := fun hn => qI_mk (by rw [← hX]; exact ⟨f1, Or.inr ⟨hn, g1⟩⟩)
  refine mI_mono (s_isKept hz k) fun v3 I2 ⟨e2, ev3⟩ => ?_
  rw [e2]
  refine ⟨fun q => no ?_, fun q3 => ⟨fun q => no ?_, fun qi => mI_mono (s_within hz what 0 3) fun v5 I4 ⟨e4, ev5⟩ => ?_⟩⟩
  · unfold aTerm
    rw [if_neg]
    intro x
    rw [if_pos x.1] at ev3
    omega
  · unfold aTerm
    rw [if_neg]
    intro x
    omega
  rw [e4]
  refine ⟨fun q5 => ?_, fun q => no ?_⟩
  rotate_left
  · unfold aTerm
    rw [if_neg]
    intro x
    rw [if_pos x.2.2] at ev5
    omega
  have ck : 0 ≤ k ∧ k ≤ 5 := Classical.byContradiction fun x => q3 (by rw [ev3, if_neg x])
  have cw3 : 0 ≤ what ∧ what ≤ 3 := Classical.byContradiction fun x => q5 (by rw [ev5, if_neg x])
  obtain ⟨rk, vk⟩ := hK.2 k ck.1 ck.2
  have e13 : I1 213 = I 213 := f1 213 (by decide)
  have ha : aTerm (I 209 1) K k i what = match tmAll (I 209 1) (K k) 16 i with
      | some m => some (tmVal (I 209 1) (K k) m what)
      | none => none := by
    unfold aTerm
    rw [if_pos ⟨ck, qi, cw3⟩]
  have k35 : ∀ (t : Nat) (l : Int) (z2 z6 : Option cm_V), t ≤ 16 → 0 ≤ l → l ≤ i → tmAll (I 209 1) (K k) 16 i = tmAll (I 209 1) (K k) t l → cw (d + 2) cd_Model_term (qI z X) 35 [some (vR 12 209), some (vI k), z2, some (vI what), some (vI l), some (vI ((t : Int) - 1)), z6] [] (I1, z) := by
    intro t
    induction t with
    | zero =>
      intro l z2 z6 ht l0 l1 e
      refine mr_term_35 hz ⟨fun _ => no ?_, fun q => by omega⟩
      rw [ha, e]
      rfl
    | succ t ih =>
      intro l z2 z6 ht l0 l1 e
      have mf := mFrom_succ hD' (t := (t : Int)) (by omega) (by omega)
      have mp := mMany_pos (I 209 1) (t := (t : Int)) (by omega) (by omega)
      have mono := mFrom_mono (I 209 1) (s := (t : Int) + 1) (t := 16) (by omega) (by omega)
      have mono0 := mFrom_mono (I 209 1) (s := 0) (t := (t : Int)) (by omega) (by omega)
      have z0 : 0 ≤ mFrom (I 209 1) 0 := (mFrom_bd (I 209 1) (t := 0) (by omega) (by omega)).1
      have m16 : mFrom (I 209 1) 16 ≤ 816 := by rcases hD' with h | h <;> rw [h] <;> decide
      have m16' : mFrom (I 209 1) 16 ≤ mSz (I 209 1) := by rcases hD' with h | h <;> rw [h] <;> decide
      rw [tmAll] at e
      have k48 : ∀ (n : Nat) (m l : Int) (z2 : Option cm_V), mFrom (I 209 1) t ≤ m → m + n = mFrom (I 209 1) ((t : Int) + 1) → 0 ≤ l → l ≤ i → (match tmScan (K k) (mMany (I 209 1) (t : Int)).toNat (mFrom (I 209 1) (t : Int)) l with | .inl m => some m | .inr l' => tmAll (I 209 1) (K k) t l') = (match tmScan (K k) (mMany (I 209 1) (t : Int)).toNat (mFrom (I 209 1) (t : Int)) l with | .inl m => some m | .inr l' => tmAll (I 209 1) (K k) t l') → tmAll (I 209 1) (K k) 16 i = (match tmScan (K k) n m l with | .inl m => some m | .inr l' => tmAll (I 209 1) (K k) t l') → cw (d + 2) cd_Model_term (qI z X) 48 [some (vR 12 209), some (vI k), z2, some (vI what), some (vI l), some (vI (t : Int)), some (vI m)] [] (I1, z) := by
        intro n
        induction n with
        | zero =>
          intro m l z2 m0 em l0 l1 _ e
          refine mr_term_48 hz ⟨⟨by omega, by omega⟩, mI_mono (s_from hz (by omega) (by omega)) fun v3 I2 ⟨e2, ev⟩ => ?_⟩
          rw [e2]
          rw [h1] at ev
          refine ⟨fun _ => ⟨⟨by omega, by omega⟩, ?_⟩, fun q => by omega⟩
          have := ih l z2 (some (vI m)) (by omega) l0 l1 e
          rw [show (t : Int) + -1 = (t : Int) - 1 by omega]
          exact this
        | succ n ihn =>
          intro m l z2 m0 em l0 l1 _ e
          refine mr_term_48 hz ⟨⟨by omega, by omega⟩, mI_mono (s_from hz (by omega) (by omega)) fun v3 I2 ⟨e2, ev⟩ => ?_⟩
          rw [e2]
          rw [h1] at ev
          refine ⟨fun q => by omega, fun _ => ⟨⟨by omega, by omega⟩, ⟨by omega, by omega⟩, ⟨by omega, by omega⟩, ?_⟩⟩
          have row : I1 213 (1140 * k + m) = K k m := by rw [e13]; exact rk m (by omega) (by omega)
          rw [row]
          rw [tmScan] at e
          refine ⟨fun q0 => ⟨⟨by omega, by omega⟩, ihn (m + 1) l z2 (by omega) (by omega) l0 l1 rfl (by rw [if_pos q0] at e; exact e)⟩, fun q0 => ⟨fun ql => ⟨⟨by omega, by omega⟩, ⟨by omega, by omega⟩, ?_⟩, fun ql I11 e11 => ?_⟩⟩
          · rw [if_neg q0, if_neg ql] at e
            rw [show l + -1 = l - 1 by omega]
            exact ihn (m + 1) (l - 1) z2 (by omega) (by omega) (by omega) (by omega) rfl e
          · rw [if_neg q0, if_pos ql] at e
            obtain ⟨f11, g11⟩ := fr_eq_iu e11
            have fA : fr [209] I I11 := fr_trans f1 f11
            have g9 : I11 209 = st1 (I 209) 0 0 := by
              rw [g11, g1]
              funext s
              unfold st1
              by_cases q : s = 0
              · rw [if_pos q, if_pos q]
              · rw [if_neg q, if_neg q]
                exact if_neg q
            have hmm := hm m (by omega) (by omega)
            have fin : ∀ r, r = tmVal (I 209 1) (K k) m what → qI z X (some (vI r)) (I11, z) := fun r hr => qI_mk (by
              rw [← hX]
              exact ⟨fA, Or.inl ⟨by rw [ha, e, hr], g9⟩⟩)
            refine ⟨fun w0 => ⟨fun w1 => ⟨fun w2 => ⟨⟨by omega, by omega⟩, fin _ ?_⟩, fun w2 => ⟨⟨by omega, by omega⟩, fin _ ?_⟩⟩, fun w1 => ⟨⟨by omega, by omega⟩, fin _ ?_⟩⟩, fun w0 => fin _ ?_⟩
            · unfold tmVal
              rw [if_neg w0, if_neg w1, if_neg w2, fA 212 (by decide), hmm.2.2]
            · unfold tmVal
              rw [if_neg w0, if_neg w1, if_pos w2, fA 211 (by decide), hmm.2.1]
            · unfold tmVal
              rw [if_neg w0, if_pos w1, fA 210 (by decide), hmm.1]
            · unfold tmVal
              rw [if_pos w0, f11 213 (by decide), row]
      refine mr_term_35 hz ⟨fun q => by omega, fun _ => mI_mono (s_from hz (by omega) (by omega)) fun v2 I2 ⟨e2, ev⟩ => ?_⟩
      rw [e2, ev, h1, show ((t + 1 : Nat) : Int) - 1 = (t : Int) by omega]
      exact k48 (mMany (I 209 1) (t : Int)).toNat _ l z2 (Int.le_refl _) (by omega) l0 l1 rfl e
  exact k35 16 i _ _ (by omega) qi (Int.le_refl _) rfl
end MKC
