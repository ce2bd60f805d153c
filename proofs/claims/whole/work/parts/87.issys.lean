/-! WHERE all monomials are sums of products, there is a system as series -/
def mon (x y w : Nat) : cP := fun i j l => if i = x ∧ j = y ∧ l = w then 1 else 0
theorem mon_mul' (x y w : Nat) (P : cP) (a b c : Nat) : cMul P (mon x y w) a b c = if x ≤ a ∧ y ≤ b ∧ w ≤ c then P (a - x) (b - y) (c - w) else 0 := by
  rw [cMul_comm]
  exact mon_mul x y w P a b c
theorem hom_toP {D : Int} (hD : D = 2 ∨ D = 3) {v : Int → Int} {own : Nat} (h : mDeg D v 0 = (own : Int)) (h1 : vOne1 D v) : hom own (toP D v) := by
  intro a b c q
  by_cases l : (own : Int) < (a : Int) + b + c
  · exact toP_deg hD (by omega)
  · unfold toP
    by_cases r : a + b + c ≤ 15 ∧ (D = 2 → c = 0)
    · rw [if_pos r]
      obtain ⟨m1, m2, m3, m4, m5⟩ := mAt_E hD (a := (a : Int)) (b := (b : Int)) (c := (c : Int)) (by omega) (by omega) (by omega) (by omega) (fun e => by have := r.2 e; omega)
      have dk : mDg D (mAt D a b c) = (a : Int) + b + c := by unfold mDg; rw [m1, m2, m3]
      have lt : mAt D a b c < mFrom D (own : Int) := by
        have := (mDg_lt hD (t := (own : Int) - 1) m4 m5 (by omega)).mpr (by omega)
        rw [show (own : Int) - 1 + 1 = own by omega] at this
        exact this
      rw [h1 _ m4 (by rw [h]; exact lt)]
      rfl
    · rw [if_neg r]
theorem wvz_eq {D : Int} (hD : D = 2 ∨ D = 3) {v : Int → Int} {own s mm : Int} (o0 : 0 ≤ own) (o1 : own ≤ 15) (os : own ≤ s) (s1 : s ≤ 17) (m0 : 0 ≤ mm) (m1 : mm < mSz D) (dm : mDg D mm = s - own) {a b c : Nat} (abc : (a : Int) + b + c = s) (hc : D = 2 → c = 0) {j : Nat} (hj : mFrom D s + j = mAt D a b c) : wvz D v own s mm j = cMul (toP D v) (mon (mE D mm).1 (mE D mm).2.1 (mE D mm).2.2) a b c := by
  obtain ⟨x1, x2, x3, x4, x5, x6⟩ := mE_at hD m0 m1
  obtain ⟨y1, y2, y3, y4, y5, y6⟩ := from_bds hD o0 o1
  have dm' : ((mE D mm).1 : Int) + (mE D mm).2.1 + (mE D mm).2.2 = s - own := dm
  simp only [mEa, mEb, mEc] at x1 x2 x3 x4 x5 x6
  rw [mon_mul']
  have kk : ∀ k : Nat, k < (mMany D own).toNat → 0 ≤ mFrom D own + k ∧ mFrom D own + k < mSz D ∧ mDg D (mFrom D own + k) = own := by
    intro k hk
    refine ⟨by omega, by omega, ?_⟩
    have p := (mDg_lt hD (k := mFrom D own + k) (t := own) (by omega) (by omega) o0).mp (by omega)
    have q := (mDg_ge hD (k := mFrom D own + k) (t := own) (by omega) (by omega) o0).mp (by omega)
    omega
  have ex : ∀ k : Nat, k < (mMany D own).toNat → mIx D (mFrom D own + k) mm = mFrom D s + j → ((mE D (mFrom D own + k)).1 : Int) + (mE D mm).1 = a ∧ ((mE D (mFrom D own + k)).2.1 : Int) + (mE D mm).2.1 = b ∧ ((mE D (mFrom D own + k)).2.2 : Int) + (mE D mm).2.2 = c := by
    intro k hk e
    obtain ⟨k1, k2, k3⟩ := kk k hk
    obtain ⟨z1, z2, z3, _, _⟩ := mIx_E hD k1 k2 m0 m1 (by omega)
    obtain ⟨w1, w2, w3, _, _⟩ := mAt_E hD (a := (a : Int)) (b := (b : Int)) (c := (c : Int)) (by omega) (by omega) (by omega) (by omega) (fun e => by have := hc e; omega)
    rw [e, hj] at z1 z2 z3
    simp only [mEa, mEb, mEc] at z1 z2 z3 w1 w2 w3
    omega
  unfold wvz wvn
  by_cases le : (mE D mm).1 ≤ a ∧ (mE D mm).2.1 ≤ b ∧ (mE D mm).2.2 ≤ c
  · rw [if_pos le]
    obtain ⟨w1, w2, w3, w4, w5⟩ := mAt_E hD (a := ((a - (mE D mm).1 : Nat) : Int)) (b := ((b - (mE D mm).2.1 : Nat) : Int)) (c := ((c - (mE D mm).2.2 : Nat) : Int)) (by omega) (by omega) (by omega) (by omega) (fun e => by have := hc e; omega)
    generalize hk0 : mAt D ((a - (mE D mm).1 : Nat) : Int) ((b - (mE D mm).2.1 : Nat) : Int) ((c - (mE D mm).2.2 : Nat) : Int) = k0 at w1 w2 w3 w4 w5
    have dk0 : mDg D k0 = own := by unfold mDg; rw [w1, w2, w3]; omega
    have lo := (mDg_ge hD (t := own) w4 w5 o0).mpr (by omega)
    have hi := (mDg_lt hD (t := own) w4 w5 o0).mpr (by omega)
    have ek : mFrom D own + (((k0 - mFrom D own).toNat : Nat) : Int) = k0 := by omega
    have hix : mIx D k0 mm = mFrom D s + j := by
      rw [hj]
      unfold mIx
      rw [w1, w2, w3]
      unfold mEa mEb mEc
      congr 1 <;> omega
    rw [gs_one (k := (k0 - mFrom D own).toNat) (by omega) fun k hk he => ?_]
    · rw [ek, if_pos hix]
      unfold toP
      rw [if_pos ⟨by omega, fun e => by have := hc e; omega⟩, hk0]
    · by_cases e : mIx D (mFrom D own + k) mm = mFrom D s + j
      · exfalso
        apply he
        obtain ⟨k1, k2, k3⟩ := kk k hk
        have := mIx_inj hD k1 k2 w4 w5 m0 m1 (by omega) (by omega) (e.trans hix.symm)
        omega
      · rw [if_neg e]
  · rw [if_neg le]
    refine gs_zero fun k hk => ?_
    by_cases e : mIx D (mFrom D own + k) mm = mFrom D s + j
    · exfalso
      apply le
      have := ex k hk e
      omega
    · rw [if_neg e]
/-- each monomial of the degree is a sum of products -/
theorem isAll_mon {D : Int} (hD : D = 2 ∨ D = 3) {P : Nat → Int → Int} {dg : Nat → Int} (hP : ∀ i : Nat, (i : Int) < D → mDeg D (P i) 0 = dg i ∧ vOne1 D (P i) ∧ 1 ≤ dg i ∧ dg i ≤ 15) (hs : sDg D dg ≤ 17) (h : isAll D P dg) {x y w : Nat} (hx : (x : Int) + y + w = sDg D dg) (hw : D = 2 → w = 0) : ∃ q : Nat → cP, mon x y w = cSm D.toNat fun i => cMul (toP D (P i)) (q i) := by
  have hge : ∀ i : Nat, (i : Int) < D → dg i ≤ sDg D dg := fun i hi => sDg_ge hD (fun j hj => (hP j hj).2.2.1) hi
  generalize hss : sDg D dg = s at hs hx hge
  obtain ⟨m1, m2, m3, m4, m5⟩ := mAt_E hD (a := (x : Int)) (b := (y : Int)) (c := (w : Int)) (by omega) (by omega) (by omega) (by omega) (fun e => by have := hw e; omega)
  have fs := mFrom_succ hD (t := s) (by omega) (by omega)
  have inx : ∀ a b c : Nat, (a : Int) + b + c = s → (D = 2 → c = 0) → ∃ j : Nat, j < (mMany D s).toNat ∧ mFrom D s + j = mAt D a b c := by
    intro a b c e ec
    obtain ⟨n1, n2, n3, n4, n5⟩ := mAt_E hD (a := (a : Int)) (b := (b : Int)) (c := (c : Int)) (by omega) (by omega) (by omega) (by omega) (fun e => by have := ec e; omega)
    have dk : mDg D (mAt D a b c) = s := by unfold mDg; rw [n1, n2, n3]; exact e
    have lo := (mDg_ge hD (t := s) n4 n5 (by omega)).mpr (by omega)
    have hi := (mDg_lt hD (t := s) n4 n5 (by omega)).mpr (by omega)
    exact ⟨(mAt D a b c - mFrom D s).toNat, by omega, by omega⟩
  obtain ⟨j0, hj0, ej0⟩ := inx x y w hx hw
  obtain ⟨c, hc⟩ := h fun j => if j = j0 then 1 else 0
  rw [hss] at hc
  refine ⟨fun i => cSm (mMany D (s - dg i)).toNat fun m => cS (c i m) (mon (mE D (mFrom D (s - dg i) + m)).1 (mE D (mFrom D (s - dg i) + m)).2.1 (mE D (mFrom D (s - dg i) + m)).2.2), ?_⟩
  funext a b e
  have rhs : (cSm D.toNat fun i => cMul (toP D (P i)) (cSm (mMany D (s - dg i)).toNat fun m => cS (c i m) (mon (mE D (mFrom D (s - dg i) + m)).1 (mE D (mFrom D (s - dg i) + m)).2.1 (mE D (mFrom D (s - dg i) + m)).2.2))) a b e = gs D.toNat fun i => gs (mMany D (s - dg i)).toNat fun m => c i m * cMul (toP D (P i)) (mon (mE D (mFrom D (s - dg i) + m)).1 (mE D (mFrom D (s - dg i) + m)).2.1 (mE D (mFrom D (s - dg i) + m)).2.2) a b e := by
    refine gs_congr fun i _ => ?_
    show cMul (toP D (P i)) (cSm (mMany D (s - dg i)).toNat fun m => cS (c i m) (mon (mE D (mFrom D (s - dg i) + m)).1 (mE D (mFrom D (s - dg i) + m)).2.1 (mE D (mFrom D (s - dg i) + m)).2.2)) a b e = _
    rw [cMul_Sm]
    refine gs_congr fun m _ => ?_
    show cMul (toP D (P i)) (cS (c i m) (mon _ _ _)) a b e = _
    rw [cMul_S2]
    rfl
  rw [rhs]
  have im : ∀ i : Nat, i < D.toNat → ∀ m : Nat, m < (mMany D (s - dg i)).toNat → 0 ≤ mFrom D (s - dg i) + m ∧ mFrom D (s - dg i) + m < mSz D ∧ mDg D (mFrom D (s - dg i) + m) = s - dg i := by
    intro i hi m hm
    have g1 := hge i (by omega)
    have g2 := (hP i (by omega)).2.2.1
    have f1 := mFrom_succ hD (t := s - dg i) (by omega) (by omega)
    have f2 := mFrom_mono D (s := s - dg i + 1) (t := 18) (by omega) (by omega)
    rw [mFrom18] at f2
    have f3 := (mFrom_bd D (t := s - dg i) (by omega) (by omega)).1
    refine ⟨by omega, by omega, ?_⟩
    have p := (mDg_lt hD (k := mFrom D (s - dg i) + m) (t := s - dg i) (by omega) (by omega) (by omega)).mp (by omega)
    have q := (mDg_ge hD (k := mFrom D (s - dg i) + m) (t := s - dg i) (by omega) (by omega) (by omega)).mp (by omega)
    omega
  by_cases q : (a : Int) + b + e = s ∧ (D = 2 → e = 0)
  · obtain ⟨j, hj, ej⟩ := inx a b e q.1 q.2
    have := hc j hj
    have z0 : gs 0 (fun m => c D.toNat m * wvz D (P D.toNat) (dg D.toNat) s (mFrom D (s - dg D.toNat) + m) j) = 0 := rfl
    rw [z0, Lean.Grind.Semiring.add_zero] at this
    have l : mon x y w a b e = if j = j0 then 1 else 0 := by
      unfold mon
      by_cases r : a = x ∧ b = y ∧ e = w
      · rw [if_pos r, if_pos]
        rw [r.1, r.2.1, r.2.2] at ej
        omega
      · rw [if_neg r, if_neg]
        intro ejj
        rw [ejj, ej0] at ej
        have := mAt_inj hD (a := (x : Int)) (b := (y : Int)) (c := (w : Int)) (a' := (a : Int)) (b' := (b : Int)) (c' := (e : Int)) (by omega) (by omega) (by omega) (by omega) (fun e2 => by have := hw e2; omega) (by omega) (by omega) (by omega) (by omega) (fun e2 => by have := q.2 e2; omega) ej
        apply r
        omega
    rw [l]
    refine this.trans (gs_congr fun i hi => gs_congr fun m hm => ?_)
    obtain ⟨a1, a2, a3⟩ := im i hi m hm
    obtain ⟨b1, b2, b3, b4⟩ := hP i (by omega)
    rw [wvz_eq hD (by omega) b4 (hge i (by omega)) hs a1 a2 a3 q.1 q.2 ej]
  · have l : mon x y w a b e = 0 := by
      unfold mon
      rw [if_neg]
      intro r
      apply q
      rw [r.1, r.2.1, r.2.2]
      exact ⟨hx, hw⟩
    rw [l]
    refine (gs_zero fun i hi => gs_zero fun m hm => ?_).symm
    obtain ⟨a1, a2, a3⟩ := im i hi m hm
    obtain ⟨b1, b2, b3, b4⟩ := hP i (by omega)
    have x6 := (mE_at hD a1 a2).2.2.2.2.2
    have dd : ((mE D (mFrom D (s - dg i) + m)).1 : Int) + (mE D (mFrom D (s - dg i) + m)).2.1 + (mE D (mFrom D (s - dg i) + m)).2.2 = s - dg i := a3
    simp only [mEc] at x6
    rw [mon_mul']
    by_cases le : (mE D (mFrom D (s - dg i) + m)).1 ≤ a ∧ (mE D (mFrom D (s - dg i) + m)).2.1 ≤ b ∧ (mE D (mFrom D (s - dg i) + m)).2.2 ≤ e
    · rw [if_pos le]
      by_cases deg : (a : Int) + b + e = s
      · have hD2 : D = 2 ∧ e ≠ 0 := by
          apply Classical.byContradiction
          intro y1
          apply q
          refine ⟨deg, fun e1 => ?_⟩
          apply Classical.byContradiction
          intro y2
          exact y1 ⟨e1, y2⟩
        have : toP D (P i) (a - (mE D (mFrom D (s - dg i) + m)).1) (b - (mE D (mFrom D (s - dg i) + m)).2.1) (e - (mE D (mFrom D (s - dg i) + m)).2.2) = 0 := by
          unfold toP
          rw [if_neg]
          intro y1
          have := y1.2 hD2.1
          have := x6 hD2.1
          omega
        rw [this, gs_z3]
      · have := hom_toP hD (own := (dg i).toNat) (by rw [b1]; omega) b2 (a - (mE D (mFrom D (s - dg i) + m)).1) (b - (mE D (mFrom D (s - dg i) + m)).2.1) (e - (mE D (mFrom D (s - dg i) + m)).2.2) (by omega)
        rw [this, gs_z3]
    · rw [if_neg le, gs_z3]
