/-! THE REFERENCE multiplies by a power of a primary one -/
/-- u times the n-th power of v, one by one -/
def tP (D : Int) (u v : Int → Int) : Nat → (Int → Int)
  | 0 => u
  | n + 1 => vMul D (tP D u v n) v
theorem vOk_tP {D : Int} (hD : D = 2 ∨ D = 3) {u v : Int → Int} (hu : vOk D u) : ∀ n : Nat, mDeg D u 0 + mDeg D v 0 * n ≤ 15 → vOk D (tP D u v n) ∧ mDeg D (tP D u v n) 0 ≤ mDeg D u 0 + mDeg D v 0 * n := by
  intro n
  induction n with
  | zero =>
    intro h
    exact ⟨hu, by show mDeg D u 0 ≤ _; omega⟩
  | succ n ih =>
    intro h
    have e : mDeg D v 0 * ((n + 1 : Nat) : Int) = mDeg D v 0 * n + mDeg D v 0 := by
      rw [show ((n + 1 : Nat) : Int) = (n : Int) + 1 from rfl, Int.mul_add, Int.mul_one]
    have dv0 := (mDeg_bd hD v 0).1
    rw [e] at h ⊢
    obtain ⟨a, b⟩ := ih (by omega)
    obtain ⟨x, y⟩ := vOk_mul hD (v := tP D u v n) (w := v) (by omega)
    exact ⟨x, by show mDeg D (vMul D (tP D u v n) v) 0 ≤ _; omega⟩
theorem mA236 : mA 236 := ⟨by decide, by decide⟩
theorem mMon_fr {l : List Nat} {I I1 : cm_I} (h : mMon I) (f : fr l I I1) (h1 : 209 ∉ l) (h2 : 210 ∉ l) (h3 : 211 ∉ l) (h4 : 212 ∉ l) : mMon I1 := by
  unfold mMon at h ⊢
  rw [f 209 h1, f 210 h2, f 211 h3, f 212 h4]
  exact h
section TP
variable {d : Nat} {z : cm_Z} {I : cm_I}
theorem s_timesPrimary (hz : mz z) (hD : mD I) (hm : mMon I) (o14 : okR (I 214) ∧ okR (I 216)) (o36 : okR (I 236)) {i e : Int} (i0 : 0 ≤ i) (i1 : i < 3) (e0 : 0 ≤ e) (e1 : e ≤ 15) {u v : Int → Int} (hu : isRow (I 214) 0 u) (ou : vOk (I 209 1) u) (hv : e ≠ 0 → isRow (I 236) (1140 * i) v ∧ mDeg (I 209 1) u 0 + mDeg (I 209 1) v 0 * e ≤ 15) : mU (d + 4) m_Model_timesPrimary [vR 12 209, vI i, vI e] z I fun I1 => fr [214, 216] I I1 ∧ (okR (I1 214) ∧ okR (I1 216)) ∧ isRow (I1 214) 0 (tP (I 209 1) u v e.toNat) := by
  have hD' : I 209 1 = 2 ∨ I 209 1 = 3 := hD
  have l14 : mLen 214 = 1140 := rfl
  have l16 : mLen 216 = 1140 := rfl
  have l36 : mLen 236 = 3420 := rfl
  have key : ∀ (n : Nat) (k : Int) (I0 : cm_I), 0 ≤ k → k + n = e → fr [214, 216] I I0 → (okR (I0 214) ∧ okR (I0 216)) → isRow (I0 214) 0 (tP (I 209 1) u v k.toNat) → cw (d + 3) cd_Model_timesPrimary (qU z fun I1 => fr [214, 216] I I1 ∧ (okR (I1 214) ∧ okR (I1 216)) ∧ isRow (I1 214) 0 (tP (I 209 1) u v e.toNat)) 2 [some (vR 12 209), some (vI i), some (vI e), some (vI k)] [] (I0, z) := by
    intro n
    induction n with
    | zero =>
      intro k I0 k0 ek hf ho hr
      refine mr_timesPrimary_2 hz ⟨fun _ => qU_mk ⟨hf, ho, ?_⟩, fun q => by omega⟩
      rw [show e = k by omega]
      exact hr
    | succ n ih =>
      intro k I0 k0 ek hf ho hr
      obtain ⟨hv1, hv2⟩ := hv (by omega)
      have b1 : I0 209 = I 209 := hf 209 (by decide)
      have b36 : I0 236 = I 236 := hf 236 (by decide)
      have hD0 : mD I0 := by unfold mD; rw [b1]; exact hD
      have hm0 : mMon I0 := mMon_fr hm hf (by decide) (by decide) (by decide) (by decide)
      have dpos := mDeg_bd hD v 0
      have hmul : mDeg (I 209 1) v 0 * (k + 1) ≤ mDeg (I 209 1) v 0 * e := Int.mul_le_mul_of_nonneg_left (by omega) dpos.1
      have hmul2 : mDeg (I 209 1) v 0 * (k + 1) = mDeg (I 209 1) v 0 * k + mDeg (I 209 1) v 0 := by rw [Int.mul_add, Int.mul_one]
      have vp := vOk_tP hD' (v := v) ou k.toNat (by rw [show ((k.toNat : Nat) : Int) = k by omega]; omega)
      rw [show ((k.toNat : Nat) : Int) = k by omega] at vp
      have hr36 : isRow (I0 236) (1140 * i) v := by rw [b36]; exact hv1
      refine mr_timesPrimary_2 hz ⟨fun q => by omega, fun q => ⟨⟨by omega, by omega⟩, mU_mono (s_multiplies hz hD0 hm0 mA214 mA236 mA216 (by decide) (by decide) (by decide) (by omega) (by omega) (by omega) (by omega) (by omega) (by omega) (by omega) (by omega) (by omega) ho.1 (by rw [b36]; exact o36) (by rw [b1, isRow_deg hr, isRow_deg hr36]; omega)) fun I7 e7 => ?_⟩⟩
      obtain ⟨f7, g7⟩ := fr_eq_iw e7
      rw [b1, isRow_mul hr hr36] at g7
      refine mU_mono (s_copies hz mA216 mA214 (by omega) (by omega) (by omega) (by omega) (by omega) (by omega) (by decide)) fun I8 e8 => ⟨⟨by omega, by omega⟩, ?_⟩
      obtain ⟨f8, g8⟩ := fr_eq_iw e8
      have e74 : I7 214 = I0 214 := f7 214 (by decide)
      refine ih (k + 1) I8 (by omega) (by omega) (fr_trans hf (fr_trans (fr_mono f7 (by decide)) (fr_mono f8 (by decide)))) ?_ (fun j j0 j1 => ?_)
      · refine ⟨?_, ?_⟩
        · rw [g8, e74, g7]
          refine okR_cpy ho.1 _ _ _ fun j j0 j1 => ?_
          unfold setR
          rw [if_pos (by omega)]
          exact pMul_bd _ _ _ _ _ _
        · rw [f8 216 (by decide), g7]
          intro j
          unfold setR
          by_cases q : (0 : Int) ≤ j ∧ j < 0 + 1140
          · rw [if_pos q]; exact pMul_bd _ _ _ _ _ _
          · rw [if_neg q]; exact ho.2 j
      · rw [show (k + 1).toNat = k.toNat + 1 by omega]
        show _ = vMul (I 209 1) (tP (I 209 1) u v k.toNat) v j
        rw [g8, g7]
        unfold cpyF setR vMul
        rw [if_pos (by omega), if_pos (by omega), if_pos ⟨j0, j1⟩]
        congr 1
        omega
  exact mr_timesPrimary hz (key e.toNat 0 I (by omega) (by omega) (fr_refl _ I) o14 hu)
end TP
