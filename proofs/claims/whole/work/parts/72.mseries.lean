/-! the calls series and base of the reference -/
theorem bsOk_thr {T : Nat → cMat} {nt : Nat} {I I1 : cm_I} (h : bsOk T nt I) (e1 : I1 209 1 = I 209 1) (e37 : I1 209 37 = I 209 37) (e6 : I1 226 = I 226) (e8 : I1 228 = I 228) (e9 : I1 229 = I 229) (e30 : I1 230 = I 230) : bsOk T nt I1 := by
  have eE : bsEnd (I1 209 1) I1 = bsEnd (I 209 1) I := by unfold bsEnd; rw [e1, e37, e8, e9]
  obtain ⟨b1, b2, b3, b4, b5, b6, b7⟩ := h
  refine ⟨by rw [e37]; exact b1, by rw [e37]; exact b2, by rw [e6]; exact b3, by rw [e30]; exact b4, by rw [eE]; exact b5, by rw [eE, e1, e37]; exact b6, fun t t0 t1 => ?_⟩
  rw [e37] at t1
  have := b7 t t0 t1
  rw [eE, e1]
  unfold bsAt at this ⊢
  rw [e8, e9, e30]
  exact this
theorem mvOk_of {I I1 : cm_I} (h : mvOk I) (e1 : I1 209 1 = I 209 1) (f0 : I1 210 = I 210) (f1 : I1 211 = I 211) (f2 : I1 212 = I 212) (o6 : okR (I1 216)) (f7 : I1 217 = I 217) (o8 : okR (I1 218)) (o4 : okR (I1 224)) : mvOk I1 := by
  obtain ⟨a, b, c, e, g, i⟩ := h
  refine ⟨by unfold mD; rw [e1]; exact a, ?_, o6, by rw [f7]; exact e, o8, o4⟩
  unfold mMon at b ⊢
  rw [e1, f0, f1, f2]
  exact b
/-- how many, and which, the base of a degree has -/
def isBs (D : Int) (T : Nat → cMat) (nt : Nat) (t : Int) (rows : Nat) (B : Nat → Nat → cF) : Prop := ∃ h, isRB (mMany D t).toNat rows h B (iV D T nt t)
theorem isBs_uniq {D : Int} {T : Nat → cMat} {nt : Nat} {t : Int} {r r' : Nat} {B B' : Nat → Nat → cF} (a : isBs D T nt t r B) (b : isBs D T nt t r' B') : r = r' ∧ ∀ i, i < r → ∀ k, k < (mMany D t).toNat → B i k = B' i k := by
  obtain ⟨h, a⟩ := a
  obtain ⟨h', b⟩ := b
  obtain ⟨e, x⟩ := isRB_uniq a b
  exact ⟨e, fun i hi => (x i hi).2⟩
def bsFr (I I1 : cm_I) : Prop := fr [209, 224, 226, 227, 228, 229, 230, 231, 232] I I1 ∧ okR (I1 224) ∧ (∀ s, s ≠ 0 → s ≠ 37 → I1 209 s = I 209 s) ∧ I1 209 0 = 0
section MSE
variable {d : Nat} {z : cm_Z} {I : cm_I} {K : Int → Int → Int} {nt : Nat}
theorem thr_bases (hz : mz z) (hO : mvOk I) (hnt : I 209 9 = nt) (hn4 : nt ≤ 4) (hB : bsOk (mTab I) nt I) {J : cm_I} (eJ : J = iu I 209 0 0) {up : Int} (u0 : 0 ≤ up) (u1 : up ≤ 15) {P : cm_I → Prop} (k : ∀ I1, bsFr I I1 → up < I1 209 37 → I 209 37 ≤ I1 209 37 → bsOk (mTab I) nt I1 → P I1) : mU (d + 5) m_Model_laysBases [vR 12 209, vI up] z J P := by
  obtain ⟨f1, g1⟩ := fr_eq_iu eJ
  have s1 : ∀ s, s ≠ 0 → J 209 s = I 209 s := fun s hs => by
    rw [g1]
    exact if_neg hs
  have h0 : J 209 0 = 0 := by rw [g1]; rfl
  have hO1 : mvOk J := mvOk_of hO (s1 1 (by decide)) (f1 210 (by decide)) (f1 211 (by decide)) (f1 212 (by decide)) (by rw [f1 216 (by decide)]; exact hO.2.2.1) (f1 217 (by decide)) (by rw [f1 218 (by decide)]; exact hO.2.2.2.2.1) (by rw [f1 224 (by decide)]; exact hO.2.2.2.2.2)
  have eT : mTab J = mTab I := by unfold mTab; rw [s1 1 (by decide), f1 217 (by decide)]
  have hB1 : bsOk (mTab J) nt J := by rw [eT]; exact bsOk_thr hB (s1 1 (by decide)) (s1 37 (by decide)) (f1 226 (by decide)) (f1 228 (by decide)) (f1 229 (by decide)) (f1 230 (by decide))
  refine mU_mono (s_laysBases hz hO1 (nt := nt) (by rw [s1 9 (by decide)]; exact hnt) hn4 hB1 u0 u1) fun I1 ⟨f2, o4, h9, hb, hu, hB2⟩ => ?_
  rw [eT] at hB2
  rw [s1 37 (by decide)] at hb
  exact k I1 ⟨fr_trans (fr_mono f1 (by decide)) f2, o4, fun s h h37 => by rw [h9 s h37, s1 s h], by rw [h9 0 (by decide), h0]⟩ hu hb hB2
theorem bsOk_get {T : Nat → cMat} (hD : mD I) (hB : bsOk T nt I) {t : Int} (t0 : 0 ≤ t) (t1 : t < I 209 37) : ∃ (rows : Nat) (B : Nat → Nat → cF), I 228 t = (rows : Int) ∧ rows ≤ (mMany (I 209 1) t).toNat ∧ isBs (I 209 1) T nt t rows B ∧ 0 ≤ I 229 t ∧ I 229 t + mMany (I 209 1) t * rows ≤ 72000 ∧ ∀ i k : Nat, i < rows → k < (mMany (I 209 1) t).toNat → I 230 (I 229 t + mMany (I 209 1) t * i + k) = fi (B i k) := by
  obtain ⟨b1, b2, b3, b4, b5, b6, b7⟩ := hB
  obtain ⟨rows, h, B, a1, a2, a3, a4, a5, a6⟩ := b7 t t0 t1
  have := sqs_bd hD (t := (I 209 37).toNat) (by omega)
  exact ⟨rows, B, a1, a2, ⟨h, a3⟩, a4, by omega, a6⟩
theorem s_series (hz : mz z) (hO : mvOk I) (hnt : I 209 9 = nt) (hn4 : nt ≤ 4) (hB : bsOk (mTab I) nt I) (t : Int) : mI (d + 6) m_Model_series [vR 12 209, vI t] z I fun r I1 => bsFr I I1 ∧ bsOk (mTab I) nt I1 ∧ I 209 37 ≤ I1 209 37 ∧ ((0 ≤ t ∧ t ≤ 15 ∧ ∃ (rows : Nat) (B : Nat → Nat → cF), isBs (I 209 1) (mTab I) nt t rows B ∧ r = (rows : Int)) ∨ (¬ (0 ≤ t ∧ t ≤ 15) ∧ r = -1)) := by
  refine mr_series hz fun I1 e1 => ?_
  obtain ⟨f1, g1⟩ := fr_eq_iu e1
  refine mI_mono (s_within hz t 0 15) fun v3 I2 ⟨e2, ev⟩ => ?_
  rw [e2]
  by_cases c : 0 ≤ t ∧ t ≤ 15
  · rw [if_pos c] at ev
    refine ⟨fun _ => thr_bases hz hO hnt hn4 hB e1 c.1 c.2 fun I4 hf hu hb hB4 => ⟨⟨c.1, by omega⟩, qI_mk ⟨hf, hB4, hb, Or.inl ⟨c.1, c.2, ?_⟩⟩⟩, fun q => by omega⟩
    have e41 : I4 209 1 = I 209 1 := hf.2.2.1 1 (by decide) (by decide)
    obtain ⟨rows, B, a1, a2, a3, a4, a5, a6⟩ := bsOk_get (by unfold mD; rw [e41]; exact hO.1) hB4 c.1 hu
    rw [e41] at a3
    exact ⟨rows, B, a3, a1⟩
  · rw [if_neg c] at ev
    refine ⟨fun q => absurd ev q, fun _ => qI_mk ⟨⟨fr_mono f1 (by decide), by rw [f1 224 (by decide)]; exact hO.2.2.2.2.2, fun s h _ => by rw [g1]; exact if_neg h, by rw [g1]; rfl⟩, bsOk_thr hB (by rw [g1]; rfl) (by rw [g1]; rfl) (f1 226 (by decide)) (f1 228 (by decide)) (f1 229 (by decide)) (f1 230 (by decide)), by rw [g1]; exact Int.le_refl _, Or.inr ⟨c, rfl⟩⟩⟩
theorem s_base (hz : mz z) (hO : mvOk I) (hK : kOk I K) (hnt : I 209 9 = nt) (hn4 : nt ≤ 4) (hB : bsOk (mTab I) nt I) (t row to : Int) : mI (d + 6) m_Model_base [vR 12 209, vI t, vI row, vI to] z I fun r I1 => fr [209, 213, 224, 226, 227, 228, 229, 230, 231, 232] I I1 ∧ okR (I1 224) ∧ (∀ s, s ≠ 0 → s ≠ 37 → I1 209 s = I 209 s) ∧ I1 209 0 = 0 ∧ bsOk (mTab I) nt I1 ∧ I 209 37 ≤ I1 209 37 ∧ ((r = -1 ∧ I1 213 = I 213 ∧ (¬ ((0 ≤ t ∧ t ≤ 15) ∧ kFit to) ∨ ∃ (rows : Nat) (B : Nat → Nat → cF), isBs (I 209 1) (mTab I) nt t rows B ∧ ¬ (0 ≤ row ∧ row < rows))) ∨ ((0 ≤ t ∧ t ≤ 15) ∧ kFit to ∧ ∃ (rows : Nat) (B : Nat → Nat → cF), isBs (I 209 1) (mTab I) nt t rows B ∧ (0 ≤ row ∧ row < rows) ∧ kOk I1 (kSet K to (bRow (I 209 1) t (B row.toNat))) ∧ r = vTerms (bRow (I 209 1) t (B row.toNat)))) := by
  refine mr_base hz fun I1 e1 => ?_
  obtain ⟨f1, g1⟩ := fr_eq_iu e1
  generalize hX : (fun (r : Int) (I1 : cm_I) => fr [209, 213, 224, 226, 227, 228, 229, 230, 231, 232] I I1 ∧ okR (I1 224) ∧ (∀ s, s ≠ 0 → s ≠ 37 → I1 209 s = I 209 s) ∧ I1 209 0 = 0 ∧ bsOk (mTab I) nt I1 ∧ I 209 37 ≤ I1 209 37 ∧ ((r = -1 ∧ I1 213 = I 213 ∧ (¬ ((0 ≤ t ∧ t ≤ 15) ∧ kFit to) ∨ ∃ (rows : Nat) (B : Nat → Nat → cF), isBs (I 209 1) (mTab I) nt t rows B ∧ ¬ (0 ≤ row ∧ row < rows))) ∨ ((0 ≤ t ∧ t ≤ 15) ∧ kFit to ∧ ∃ (rows : Nat) (B : Nat → Nat → cF), isBs (I 209 1) (mTab I) nt t rows B ∧ (0 ≤ row ∧ row < rows) ∧ kOk I1 (kSet K to (bRow (I 209 1) t (B row.toNat))) ∧ r = vTerms (bRow (I 209 1) t (B row.toNat))))) = X
  have no : ¬ ((0 ≤ t ∧ t ≤ 15) ∧ kFit to) → qI z X (some (vI (-1))) (I1, z) := fun hn => qI_mk (by
    rw [← hX]
    exact ⟨fr_mono f1 (by decide), by rw [f1 224 (by decide)]; exact hO.2.2.2.2.2, fun s h _ => by rw [g1]; exact if_neg h, by rw [g1]; rfl, bsOk_thr hB (by rw [g1]; rfl) (by rw [g1]; rfl) (f1 226 (by decide)) (f1 228 (by decide)) (f1 229 (by decide)) (f1 230 (by decide)), by rw [g1]; exact Int.le_refl _, Or.inl ⟨rfl, f1 213 (by decide), Or.inl hn⟩⟩)
  refine mI_mono (s_within hz t 0 15) fun v3 I2 ⟨e2, ev3⟩ => ?_
  rw [e2]
  refine ⟨fun q => no fun x => by rw [if_pos x.1] at ev3; omega, fun q3 => mI_mono (s_isKept hz to) fun v5 I4 ⟨e4, ev5⟩ => ?_⟩
  rw [e4]
  refine ⟨fun q5 => ?_, fun q => no fun x => by rw [if_pos x.2] at ev5; omega⟩
  have ct : 0 ≤ t ∧ t ≤ 15 := Classical.byContradiction fun x => q3 (by rw [ev3, if_neg x])
  have co : 0 ≤ to ∧ to ≤ 5 := Classical.byContradiction fun x => q5 (by rw [ev5, if_neg x])
  refine thr_bases hz hO hnt hn4 hB e1 ct.1 ct.2 fun I6 hf hu hb hB6 => ⟨⟨ct.1, by omega⟩, ?_⟩
  have e61 : I6 209 1 = I 209 1 := hf.2.2.1 1 (by decide) (by decide)
  have hD6 : mD I6 := by unfold mD; rw [e61]; exact hO.1
  obtain ⟨rows, B, a1, a2, a3, a4, a5, a6⟩ := bsOk_get hD6 hB6 ct.1 hu
  rw [e61] at a2 a3
  have l13 : mLen 213 = 6840 := rfl
  obtain ⟨w1, w2, w3, w4, w5, w6⟩ := from_bds hO.1 ct.1 ct.2
  rw [a1]
  refine ⟨⟨by omega, by omega⟩, mI_mono (s_within hz row 0 ((rows : Int) - 1)) fun v10 I9 ⟨e9, ev10⟩ => ?_⟩
  rw [e9]
  by_cases cr : 0 ≤ row ∧ row ≤ (rows : Int) - 1
  · rw [if_pos cr] at ev10
    refine ⟨fun _ => ⟨⟨by omega, by omega⟩, ?_⟩, fun q => by omega⟩
    have er : row = ((row.toNat : Nat) : Int) := by omega
    rw [er]
    refine mU_mono (s_laysBaseRow hz hD6 mA213 (by decide) (by decide) (by decide) (by omega) (by omega) (by omega) ct.1 ct.2 (i := row.toNat) (rows := rows) (by omega) a4 a5 a6) fun I12 ⟨f12, r12, out12⟩ => ?_
    rw [e61] at r12
    have v12 := vOk_bRow hO.1 ct.1 ct.2 (B row.toNat)
    have f69 := hf.1
    have k12 : kOk I12 (kSet K to (bRow (I 209 1) t (B row.toNat))) := by
      refine ⟨fun j => ?_, fun j j0 j1 => ?_⟩
      · by_cases q : 1140 * to ≤ j ∧ j < 1140 * to + 1140
        · have := r12 (j - 1140 * to) (by omega) (by omega)
          rw [show 1140 * to + (j - 1140 * to) = j by omega] at this
          rw [this]
          exact v12.1 _
        · rw [out12 j q, f69 213 (by decide)]
          exact hK.1 j
      · have e121 : I12 209 1 = I 209 1 := by rw [f12 209 (by decide), e61]
        rw [e121]
        unfold kSet
        by_cases q : j = to
        · rw [if_pos q, q]
          exact ⟨r12, v12⟩
        · rw [if_neg q]
          refine ⟨fun k k0 k1 => ?_, (hK.2 j j0 j1).2⟩
          rw [out12 _ (by omega), f69 213 (by decide)]
          exact (hK.2 j j0 j1).1 k k0 k1
    refine mI_mono (s_terms hz (by omega) (by omega)) fun v14 I13 ⟨e13, ev14⟩ => qI_mk ?_
    rw [e13, ev14, isRow_terms r12, ← hX]
    refine ⟨fr_trans (fr_mono f69 (by decide)) (fr_mono f12 (by decide)), by rw [f12 224 (by decide)]; exact hf.2.1, fun s h h37 => by rw [f12 209 (by decide)]; exact hf.2.2.1 s h h37, by rw [f12 209 (by decide)]; exact hf.2.2.2, bsOk_thr hB6 (by rw [f12 209 (by decide)]) (by rw [f12 209 (by decide)]) (f12 226 (by decide)) (f12 228 (by decide)) (f12 229 (by decide)) (f12 230 (by decide)), by rw [f12 209 (by decide)]; exact hb, Or.inr ⟨ct, co, rows, B, a3, by omega, ?_, ?_⟩⟩
    · exact k12
    · rfl
  · rw [if_neg cr] at ev10
    refine ⟨fun q => absurd ev10 q, fun _ => qI_mk ?_⟩
    rw [← hX]
    exact ⟨fr_mono hf.1 (by decide), hf.2.1, hf.2.2.1, hf.2.2.2, hB6, hb, Or.inl ⟨rfl, hf.1 213 (by decide), Or.inr ⟨rows, B, a3, by omega⟩⟩⟩
end MSE
