/-! VECTORS of a degree, rows and series -/
/-- the factors of degree t of a series -/
def sv_c (D t : Int) (u : cP) (k : Nat) : cF := atE D u (mFrom D t + k)
theorem sv_dg {D t : Int} (hD : D = 2 ∨ D = 3) (t0 : 0 ≤ t) (t1 : t ≤ 15) {K : Int} (h0 : mFrom D t ≤ K) (h1 : K < mFrom D (t + 1)) : mDg D K = t ∧ 0 ≤ K ∧ K < mSz D := by
  have fb := from_bds hD t0 t1
  have x := (mDg_lt hD (k := K) (t := t) (by omega) (by omega) t0).mp h1
  have y := (mDg_ge hD (k := K) (t := t) (by omega) (by omega) t0).mp h0
  exact ⟨by omega, by omega, by omega⟩
theorem sv_row {D t : Int} (hD : D = 2 ∨ D = 3) (t0 : 0 ≤ t) (t1 : t ≤ 15) (w : Nat → cF) {k : Nat} (hk : k < (mMany D t).toNat) : toF (bRow D t w (mFrom D t + k)) = w k := by
  have fb := from_bds hD t0 t1
  unfold bRow
  rw [if_pos ⟨by omega, by omega⟩, toF_fi, show (mFrom D t + (k : Int) - mFrom D t).toNat = k by omega]
/-- left alone, as vectors and as rows -/
theorem iV_inv {D t : Int} (hD : D = 2 ∨ D = 3) (t0 : 0 ≤ t) (t1 : t ≤ 15) (T : Nat → cMat) (nt : Nat) (w : Nat → cF) : iV D T nt t w ↔ isInv D T nt (bRow D t w) := by
  have fb := from_bds hD t0 t1
  obtain ⟨s1, s2, s3⟩ := m16_bd hD
  have f16 : mFrom D (t + 1) ≤ mFrom D 16 := mFrom_mono D (by omega) (by omega)
  have at_ : ∀ (A : cMat) (o : Nat), o < (mMany D t).toNat → mvF D A (bRow D t w) (mFrom D t + o) = gs (mMany D t).toNat (fun k => w k * imgM D A t k o) := by
    intro A o ho
    obtain ⟨dg, -, -⟩ := sv_dg hD t0 t1 (K := mFrom D t + o) (by omega) (by omega)
    unfold mvF mvN
    rw [dg]
    refine gs_congr fun i hi => ?_
    rw [sv_row hD t0 t1 w hi]
    rfl
  constructor
  · intro h g hg
    funext K
    unfold mv
    by_cases q : 0 ≤ K ∧ K < mFrom D 16
    · rw [if_pos q]
      by_cases r : mFrom D t ≤ K ∧ K < mFrom D (t + 1)
      · have eK : K = mFrom D t + ((K - mFrom D t).toNat : Nat) := by omega
        have ho : (K - mFrom D t).toNat < (mMany D t).toNat := by omega
        rw [eK, at_ (T g) _ ho, h g hg _ ho]
        unfold bRow
        rw [if_pos ⟨by omega, by omega⟩]
        congr 2
        omega
      · have z : mvF D (T g) (bRow D t w) K = 0 := by
          obtain ⟨d0, d1, d2, d3⟩ := mDg_from hD q.1 (by omega)
          have d15 : mDg D K ≤ 15 := (mDg_lt hD (k := K) (t := 15) q.1 (by omega) (by omega)).mp (by rw [show (15 : Int) + 1 = 16 by omega]; exact q.2)
          have fb2 := from_bds hD d0 d15
          unfold mvF mvN
          refine gs_zero fun i hi => ?_
          have : bRow D t w (mFrom D (mDg D K) + i) = 0 := by
            unfold bRow
            rw [if_neg]
            intro x
            have e1 := (sv_dg hD t0 t1 x.1 x.2).1
            have e2 := (sv_dg hD d0 d15 (K := mFrom D (mDg D K) + i) (by omega) (by omega)).1
            exact r ⟨by rw [e1] at e2; rw [← e2] at d2; exact d2, by rw [e1] at e2; rw [← e2] at d3; exact d3⟩
          rw [this, toF_zero, gs_z1]
        rw [z]
        unfold bRow
        rw [if_neg r]
        rfl
    · rw [if_neg q]
      unfold bRow
      rw [if_neg (by omega)]
  · intro h g hg o ho
    have e := congrFun (h g hg) (mFrom D t + o)
    unfold mv at e
    rw [if_pos ⟨by omega, by omega⟩, at_ (T g) o ho] at e
    have e2 : toF (fi (gs (mMany D t).toNat (fun k => w k * imgM D (T g) t k o))) = toF (bRow D t w (mFrom D t + o)) := by rw [e]
    rw [toF_fi, sv_row hD t0 t1 w ho] at e2
    exact e2
/-- a series of one degree, without the third variable where there are two -/
def sv_z (D : Int) (m : Nat) (u : cP) : Prop := hom m u ∧ (D = 2 → ∀ a b c, c ≠ 0 → u a b c = 0)
theorem sv_mE {D : Int} (hD : D = 2 ∨ D = 3) {a b c : Nat} (h : a + b + c ≤ 15) (h2 : D = 2 → c = 0) : mE D (mAt D a b c) = (a, b, c) := by
  obtain ⟨m1, m2, m3, m4, m5⟩ := mAt_E hD (a := (a : Int)) (b := (b : Int)) (c := (c : Int)) (by omega) (by omega) (by omega) (by omega) (fun e => by have := h2 e; omega)
  unfold mEa at m1
  unfold mEb at m2
  unfold mEc at m3
  exact Prod.ext (by omega) (Prod.ext (by show _ = b; omega) (by show _ = c; omega))
theorem sv_ix {D : Int} (hD : D = 2 ∨ D = 3) {a b c t : Nat} (h : a + b + c = t) (t1 : t ≤ 15) (h2 : D = 2 → c = 0) : mFrom D t ≤ mAt D a b c ∧ mAt D a b c < mFrom D (t + 1) := by
  obtain ⟨m1, m2, m3, m4, m5⟩ := mAt_E hD (a := (a : Int)) (b := (b : Int)) (c := (c : Int)) (by omega) (by omega) (by omega) (by omega) (fun e => by have := h2 e; omega)
  have dg : mDg D (mAt D a b c) = t := by unfold mDg; rw [m1, m2, m3]; omega
  exact ⟨(mDg_ge hD m4 m5 (by omega)).mpr (by omega), (mDg_lt hD m4 m5 (by omega)).mpr (by omega)⟩
theorem sv_zrow {D : Int} (hD : D = 2 ∨ D = 3) {t : Nat} (t1 : t ≤ 15) (w : Nat → cF) : sv_z D t (toP D (bRow D t w)) := by
  refine ⟨fun a b c h => ?_, fun e a b c hc => ?_⟩
  · unfold toP
    by_cases q : a + b + c ≤ 15 ∧ (D = 2 → c = 0)
    · rw [if_pos q]
      have := sv_ix hD (a := a) (b := b) (c := c) (t := a + b + c) rfl q.1 q.2
      unfold bRow
      rw [if_neg]
      · rfl
      · intro x
        have e1 := (sv_dg hD (t := (t : Int)) (by omega) (by omega) x.1 x.2).1
        have e2 := (sv_dg hD (t := ((a + b + c : Nat) : Int)) (by omega) (by omega) this.1 this.2).1
        omega
    · rw [if_neg q]
  · unfold toP
    rw [if_neg (fun q => hc (q.2 e))]
/-- equal where their vectors are -/
theorem sv_ext {D : Int} (hD : D = 2 ∨ D = 3) {t : Nat} (t1 : t ≤ 15) {u w : cP} (hu : sv_z D t u) (hw : sv_z D t w) (h : ∀ k, k < (mMany D t).toNat → sv_c D t u k = sv_c D t w k) : u = w := by
  have fb := from_bds hD (t := (t : Int)) (by omega) (by omega)
  funext a b c
  by_cases q : a + b + c = t
  · by_cases r : D = 2 ∧ c ≠ 0
    · rw [hu.2 r.1 a b c r.2, hw.2 r.1 a b c r.2]
    · have r2 : D = 2 → c = 0 := fun e => Classical.byContradiction fun x => r ⟨e, x⟩
      have ix := sv_ix hD q t1 r2
      have := h (mAt D a b c - mFrom D t).toNat (by omega)
      unfold sv_c atE at this
      rw [show mFrom D (t : Int) + ((mAt D a b c - mFrom D (t : Int)).toNat : Int) = mAt D a b c by omega, sv_mE hD (by omega) r2] at this
      exact this
  · rw [hu.1 a b c q, hw.1 a b c q]
theorem sv_crow {D : Int} (hD : D = 2 ∨ D = 3) {t : Nat} (t1 : t ≤ 15) (w : Nat → cF) {k : Nat} (hk : k < (mMany D t).toNat) : sv_c D t (toP D (bRow D t w)) k = w k := by
  have fb := from_bds hD (t := (t : Int)) (by omega) (by omega)
  obtain ⟨d0, d1, d2⟩ := sv_dg hD (t := (t : Int)) (by omega) (by omega) (K := mFrom D t + k) (by omega) (by omega)
  unfold sv_c atE
  rw [toP_at hD _ d1 d2 (by omega), sv_row hD (by omega) (by omega) w hk]
/-- a series as a row -/
theorem sv_back {D : Int} (hD : D = 2 ∨ D = 3) {t : Nat} (t1 : t ≤ 15) {u : cP} (hu : sv_z D t u) : toP D (bRow D t (sv_c D t u)) = u :=
  sv_ext hD t1 (sv_zrow hD t1 _) hu fun k hk => sv_crow hD t1 _ hk
