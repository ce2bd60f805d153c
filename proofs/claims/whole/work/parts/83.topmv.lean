/-! ROWS as series: moving -/
theorem gs_split {R : Type} [Lean.Grind.CommRing R] (m n : Nat) (f : Nat → R) : gs (m + n) f = gs m f + gs n (fun i => f (m + i)) := by
  induction n with
  | zero => exact (Lean.Grind.Semiring.add_zero _).symm
  | succ n ih =>
    show gs (m + n) f + f (m + n) = _
    rw [ih, gs]
    exact Lean.Grind.Semiring.add_assoc _ _ _
theorem gs_range {R : Type} [Lean.Grind.CommRing R] {S lo n : Nat} (h : lo + n ≤ S) {f : Nat → R} (hz : ∀ i, i < S → (i < lo ∨ lo + n ≤ i) → f i = 0) : gs S f = gs n fun i => f (lo + i) := by
  rw [gs_ext h fun i h1 h2 => hz i h2 (Or.inr h1), gs_split, gs_zero fun i hi => hz i (by omega) (Or.inl hi)]
  exact Lean.Grind.AddCommMonoid.zero_add _
theorem lm_z {l : Nat → cF} {P : cP} (h2 : l 2 = 0) (h : ∀ a b c, c ≠ 0 → P a b c = 0) : ∀ a b c, c ≠ 0 → lm l P a b c = 0 := by
  intro a b c hc
  unfold lm
  have e1 : (if a = 0 then (0 : cF) else l 0 * P (a - 1) b c) = 0 := by
    by_cases z : a = 0
    · rw [if_pos z]
    · rw [if_neg z, h _ _ _ hc, gs_z3]
  have e2 : (if b = 0 then (0 : cF) else l 1 * P a (b - 1) c) = 0 := by
    by_cases z : b = 0
    · rw [if_pos z]
    · rw [if_neg z, h _ _ _ hc, gs_z3]
  have e3 : (if c = 0 then (0 : cF) else l 2 * P a b (c - 1)) = 0 := by rw [if_neg hc, h2, gs_z1]
  rw [e1, e2, e3]
  decide
theorem mono_z {A : cMat} (h0 : A 0 2 = 0) (h1 : A 1 2 = 0) (i j : Nat) : ∀ a b c, c ≠ 0 → mono A i j 0 a b c = 0 := by
  have one : ∀ a b c, c ≠ 0 → cOne a b c = 0 := fun a b c hc => by
    unfold cOne
    rw [if_neg (fun q => hc q.2.2)]
  have lp : ∀ (l : Nat → cF) (P : cP), l 2 = 0 → (∀ a b c, c ≠ 0 → P a b c = 0) → ∀ n a b c, c ≠ 0 → lpow l n P a b c = 0 := by
    intro l P h2 h n
    induction n with
    | zero => exact h
    | succ n ih => exact lm_z h2 ih
  exact lp (A 0) _ h0 (lp (A 1) _ h1 one j) i
/-- with two variables the third stays -/
def isD (D : Int) (A : cMat) : Prop := D = 2 → A 0 2 = 0 ∧ A 1 2 = 0
theorem isD_mat (D : Int) (f : Int → Int) (g : Int) : isD D (mat D f g) := by
  intro e
  unfold mat
  rw [e]
  exact ⟨rfl, rfl⟩
theorem toP_mv {D : Int} (hD : D = 2 ∨ D = 3) {A : cMat} (hA : isD D A) (v : Int → Int) : toP D (mv D A v) = mvP A (toP D v) := by
  funext a b c
  obtain ⟨s1, s2, s3⟩ := m16_bd hD
  by_cases q : a + b + c ≤ 15 ∧ (D = 2 → c = 0)
  · obtain ⟨m1, m2, m3, m4, m5⟩ := mAt_E hD (a := (a : Int)) (b := (b : Int)) (c := (c : Int)) (by omega) (by omega) (by omega) (by omega) (fun e => by have := q.2 e; omega)
    have dK : mDg D (mAt D a b c) = ((a + b + c : Nat) : Int) := by unfold mDg; rw [m1, m2, m3]; omega
    have eK : mE D (mAt D a b c) = (a, b, c) := by
      unfold mEa at m1
      unfold mEb at m2
      unfold mEc at m3
      exact Prod.ext (by omega) (Prod.ext (by show _ = b; omega) (by show _ = c; omega))
    have k16 : mAt D a b c < mFrom D 16 := by
      have := (mDg_lt hD (t := 15) m4 m5 (by omega)).mpr (by omega)
      rw [show (15 : Int) + 1 = 16 by omega] at this
      exact this
    have lhs : toP D (mv D A v) a b c = mvF D A v (mAt D a b c) := by
      unfold toP mv
      rw [if_pos q, if_pos ⟨m4, k16⟩, toF_fi]
    rw [lhs]
    obtain ⟨w1, w2, w3, w4, w5, w6⟩ := from_bds hD (t := ((a + b + c : Nat) : Int)) (by omega) (by omega)
    have big : gs (mSz D).toNat (fun k => toP D v (mE D (k : Int)).1 (mE D (k : Int)).2.1 (mE D (k : Int)).2.2 * mono A (mE D (k : Int)).1 (mE D (k : Int)).2.1 (mE D (k : Int)).2.2 a b c) = mvF D A v (mAt D a b c) := by
      have hs := mSz_bd D
      rw [gs_range (lo := (mFrom D ((a + b + c : Nat) : Int)).toNat) (n := (mMany D ((a + b + c : Nat) : Int)).toNat) (by omega) (fun k hk hout => ?_)]
      · unfold mvF mvN
        rw [dK]
        refine gs_congr fun i hi => ?_
        have ek : (((mFrom D ((a + b + c : Nat) : Int)).toNat + i : Nat) : Int) = mFrom D ((a + b + c : Nat) : Int) + i := by omega
        have dk : mDg D (mFrom D ((a + b + c : Nat) : Int) + i) ≤ 15 := by
          have := (mDg_lt hD (k := mFrom D ((a + b + c : Nat) : Int) + i) (t := ((a + b + c : Nat) : Int)) (by omega) (by omega) (by omega)).mp (by omega)
          omega
        rw [ek, toP_at hD v (by omega) (by omega) dk]
        unfold atE monoE
        rw [eK]
      · obtain ⟨x1, x2, x3, x4, x5, x6⟩ := mE_at hD (k := (k : Int)) (by omega) (by omega)
        have ne : mDg D (k : Int) ≠ ((a + b + c : Nat) : Int) := by
          intro e
          have lo := (mDg_ge hD (k := (k : Int)) (t := ((a + b + c : Nat) : Int)) (by omega) (by omega) (by omega)).mpr (by omega)
          have hi := (mDg_lt hD (k := (k : Int)) (t := ((a + b + c : Nat) : Int)) (by omega) (by omega) (by omega)).mpr (by omega)
          omega
        unfold mDg mEa mEb mEc at ne
        rw [hom_mono A _ _ _ a b c (by omega), gs_z3]
    rw [← big, ix_sum hD fun i j k => toP D v i j k * mono A i j k a b c, mvP_N A (toP D v) (N := 18) (by omega)]
    refine (S3_congr fun i j k => ?_).trans rfl
    by_cases h : i + j + k ≤ 17 ∧ (D = 2 → k = 0)
    · rw [if_pos h]
    · rw [if_neg h]
      have : toP D v i j k = 0 := by
        unfold toP
        rw [if_neg]
        intro y
        exact h ⟨by omega, y.2⟩
      rw [this, gs_z1]
  · have lhs : toP D (mv D A v) a b c = 0 := by unfold toP; rw [if_neg q]
    rw [lhs]
    unfold mvP
    refine (gs_zero fun i _ => gs_zero fun j _ => gs_zero fun k _ => ?_).symm
    show toP D v i j k * mono A i j k a b c = 0
    by_cases e : i + j + k = a + b + c
    · by_cases g : a + b + c ≤ 15
      · have hD2 : D = 2 ∧ c ≠ 0 := by
          apply Classical.byContradiction
          intro y
          apply q
          refine ⟨g, fun e => ?_⟩
          apply Classical.byContradiction
          intro y2
          exact y ⟨e, y2⟩
        by_cases k0 : k = 0
        · rw [k0, mono_z (hA hD2.1).1 (hA hD2.1).2 i j a b c hD2.2, gs_z3]
        · have : toP D v i j k = 0 := by
            unfold toP
            rw [if_neg (fun y => k0 (y.2 hD2.1))]
          rw [this, gs_z1]
      · have : toP D v i j k = 0 := by
          unfold toP
          rw [if_neg (fun y => by omega)]
        rw [this, gs_z1]
    · rw [hom_mono A i j k a b c (by omega), gs_z3]
theorem toP_inj {D : Int} (hD : D = 2 ∨ D = 3) {u v : Int → Int} (hu : vOk D u) (hv : vOk D v) (e : toP D u = toP D v) : u = v := by
  funext k
  obtain ⟨s1, s2, s3⟩ := m16_bd hD
  by_cases q : 0 ≤ k ∧ k < mFrom D 16
  · have dk := (mDg_lt hD (k := k) (t := 15) q.1 (by omega) (by omega)).mp (by rw [show (15 : Int) + 1 = 16 by omega]; exact q.2)
    have a := toP_at hD u q.1 (by omega) dk
    have b := toP_at hD v q.1 (by omega) dk
    rw [e, b] at a
    have x := hu.1 k
    have y := hv.1 k
    have := toF_eq.mp a
    omega
  · rw [vOk_16 hD hu q, vOk_16 hD hv q]
/-- left alone, as series -/
theorem isInv_iff {D : Int} (hD : D = 2 ∨ D = 3) {T : Nat → cMat} {nt : Nat} (hT : ∀ t, t < nt → isD D (T t)) {v : Int → Int} (hv : vOk D v) : isInv D T nt v ↔ ∀ t, t < nt → mvP (T t) (toP D v) = toP D v := by
  constructor
  · intro h t ht
    rw [← toP_mv hD (hT t ht), h t ht]
  · intro h t ht
    refine toP_inj hD (vOk_mv hD _ _) hv ?_
    rw [toP_mv hD (hT t ht), h t ht]
