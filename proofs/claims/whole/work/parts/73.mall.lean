/-! WHETHER all monomials of a degree are sums of products, by the reference -/
/-- a polynomial of one degree times a monomial, as a vector of degree s -/
def wvn (D : Int) (v : Int → Int) (own s mm : Int) (n : Nat) (j : Nat) : cF := gs n fun i => if mIx D (mFrom D own + i) mm = mFrom D s + j then toF (v (mFrom D own + i)) else 0
def wvz (D : Int) (v : Int → Int) (own s mm : Int) (j : Nat) : cF := wvn D v own s mm (mMany D own).toNat j
/-- sums of products with the first i0, and with one more and its first m0 monomials -/
def spW (D : Int) (P : Nat → Int → Int) (dg : Nat → Int) (s : Int) (i0 m0 : Nat) (v : Nat → cF) : Prop := ∃ c : Nat → Nat → cF, ∀ j, j < (mMany D s).toNat → v j = gs i0 (fun i => gs (mMany D (s - dg i)).toNat fun m => c i m * wvz D (P i) (dg i) s (mFrom D (s - dg i) + m) j) + gs m0 (fun m => c i0 m * wvz D (P i0) (dg i0) s (mFrom D (s - dg i0) + m) j)
def sDg (D : Int) (dg : Nat → Int) : Int := 1 - D + sg D.toNat dg
def isAll (D : Int) (P : Nat → Int → Int) (dg : Nat → Int) : Prop := ∀ v, spW D P dg (sDg D dg) D.toNat 0 v
theorem spW_next {D : Int} {P : Nat → Int → Int} {dg : Nat → Int} {s : Int} {i0 : Nat} {v : Nat → cF} : spW D P dg s i0 (mMany D (s - dg i0)).toNat v ↔ spW D P dg s (i0 + 1) 0 v := by
  constructor
  · intro ⟨c, h⟩
    exact ⟨c, fun j hj => by rw [h j hj]; exact (Lean.Grind.Semiring.add_zero _).symm⟩
  · intro ⟨c, h⟩
    exact ⟨c, fun j hj => by rw [h j hj]; exact Lean.Grind.Semiring.add_zero _⟩
theorem sw_g1 {R : Type} [Lean.Grind.CommRing R] (a b c : R) : a + b + c = a + (b + c) := by grind
theorem spW_more {D : Int} {P : Nat → Int → Int} {dg : Nat → Int} {s : Int} {i0 m0 r : Nat} {M : Nat → Nat → cF} (h : ∀ v, inS (mMany D s).toNat r M v ↔ spW D P dg s i0 m0 v) (hr : ∀ j, j < (mMany D s).toNat → M r j = wvz D (P i0) (dg i0) s (mFrom D (s - dg i0) + m0) j) (v : Nat → cF) : inS (mMany D s).toNat (r + 1) M v ↔ spW D P dg s i0 (m0 + 1) v := by
  constructor
  · intro ⟨c, hc⟩
    obtain ⟨e, he⟩ := (h (lc r c M)).mp ⟨c, fun _ _ => rfl⟩
    refine ⟨fun i m => if i = i0 ∧ m = m0 then c r else e i m, fun j hj => ?_⟩
    rw [hc j hj]
    show lc r c M j + c r * M r j = _
    rw [he j hj, hr j hj, gs]
    have e1 : gs i0 (fun i => gs (mMany D (s - dg i)).toNat fun m => (if i = i0 ∧ m = m0 then c r else e i m) * wvz D (P i) (dg i) s (mFrom D (s - dg i) + m) j) = gs i0 (fun i => gs (mMany D (s - dg i)).toNat fun m => e i m * wvz D (P i) (dg i) s (mFrom D (s - dg i) + m) j) := gs_congr fun i hi => gs_congr fun m _ => by rw [if_neg (by omega)]
    have e2 : gs m0 (fun m => (if i0 = i0 ∧ m = m0 then c r else e i0 m) * wvz D (P i0) (dg i0) s (mFrom D (s - dg i0) + m) j) = gs m0 (fun m => e i0 m * wvz D (P i0) (dg i0) s (mFrom D (s - dg i0) + m) j) := gs_congr fun m hm => by rw [if_neg (by omega)]
    have e3 : (fun i m => if i = i0 ∧ m = m0 then c r else e i m) i0 m0 = c r := if_pos ⟨rfl, rfl⟩
    rw [e1, e2, e3]
    exact sw_g1 _ _ _
  · intro ⟨c, hc⟩
    have low : inS (mMany D s).toNat r M (fun j => gs i0 (fun i => gs (mMany D (s - dg i)).toNat fun m => c i m * wvz D (P i) (dg i) s (mFrom D (s - dg i) + m) j) + gs m0 (fun m => c i0 m * wvz D (P i0) (dg i0) s (mFrom D (s - dg i0) + m) j)) := (h _).mpr ⟨c, fun _ _ => rfl⟩
    refine inS_congr (inS_add (inS_mono (m' := r + 1) (by omega) low) (inS_smul (c i0 m0) (inS_row (w := M) (i := r) (by omega)))) fun j hj => ?_
    rw [hc j hj, gs, hr j hj]
    exact (sw_g1 _ _ _).symm
theorem inS_short {n r r' : Nat} {M : Nat → Nat → cF} (hr : r ≤ r') (hz : ∀ q k, r ≤ q → q < r' → k < n → M q k = 0) (v : Nat → cF) : inS n r' M v ↔ inS n r M v := by
  constructor
  · intro ⟨c, hc⟩
    refine ⟨c, fun k hk => ?_⟩
    rw [hc k hk]
    exact gs_ext hr fun i h1 h2 => by rw [hz i k h1 h2 hk, gs_z3]
  · exact inS_mono hr
theorem gSt_full {m n done : Nat} {M : Nat → Nat → cF} {p : Nat → Nat} (h : gSt m n done M p) : done = n ↔ ∀ v, inS n done M v := by
  obtain ⟨a1, a2, a3, a4, a5, a6, a7, a8⟩ := id h
  have rb : (∀ v, inS n done M v) → isRB n done p M (fun _ => True) := fun hv => by
    refine ⟨a4, a3, a5, fun i j hi hj hne => a6 i j (by omega) hj hne, a7, fun _ _ => trivial, fun v _ k hk => ?_⟩
    obtain ⟨c, hc⟩ := hv v
    have co : ∀ i, i < done → v (p i) = c i := by
      intro i hi
      rw [hc _ (a3 i hi)]
      unfold lc
      rw [gs_one (k := i) hi (fun j hj he => by show c j * M j (p i) = 0; rw [a6 j i (by omega) hi he, gs_z3])]
      show c i * M i (p i) = c i
      rw [a5 i hi]
      exact Lean.Grind.Semiring.mul_one _
    rw [hc k hk]
    exact gs_congr fun i hi => by rw [co i hi]
  constructor
  · intro e v
    have pi : ∀ i, i < n → p i = i := by
      have up : ∀ i, i < n → i ≤ p i := by
        intro i
        induction i with
        | zero => intro _; omega
        | succ i ih => intro hi; have := a4 i (i + 1) (by omega) (by omega); have := ih (by omega); omega
      have dn : ∀ k i, i + k + 1 = n → p i ≤ i := by
        intro k
        induction k with
        | zero => intro i hi; have := a3 i (by omega); omega
        | succ k ih => intro i hi; have := a4 i (i + 1) (by omega) (by omega); have := ih (i + 1) (by omega); omega
      intro i hi
      have := up i hi
      have := dn (n - 1 - i) i (by omega)
      omega
    refine ⟨v, fun k hk => ?_⟩
    unfold lc
    rw [gs_one (k := k) (by omega) (fun i hi he => by
      show v i * M i k = 0
      have := a6 i k (by omega) (by omega) he
      rw [pi k hk] at this
      rw [this, gs_z3])]
    show v k = v k * M k k
    have := a5 k (by omega)
    rw [pi k hk] at this
    rw [this]
    exact (Lean.Grind.Semiring.mul_one _).symm
  · intro hv
    have r := rb hv
    have s2 : ∀ j, j < n → ∃ i, i < done ∧ p i = j := by
      intro j hj
      refine isRB_lead r (v := fun k => if k = j then 1 else 0) trivial hj ?_ fun c' hc' => if_neg (by omega)
      show (if j = j then (1 : cF) else 0) ≠ 0
      rw [if_pos rfl]
      exact f_one_ne
    have u := inc_uniq (r := n) (r' := done) (h := fun i => i) (h' := p) (fun i j hij _ => hij) a4 (fun i hi => s2 i hi) (fun j hj => ⟨p j, a3 j hj, rfl⟩)
    apply Nat.le_antisymm a2
    apply Classical.byContradiction
    intro q
    have := (u done (by omega)).1
    omega
theorem sDg_ge {D : Int} (hD : D = 2 ∨ D = 3) {dg : Nat → Int} (h1 : ∀ i : Nat, (i : Int) < D → 1 ≤ dg i) {i : Nat} (hi : (i : Int) < D) : dg i ≤ sDg D dg := by
  unfold sDg
  have a0 := h1 0 (by omega)
  have a1 := h1 1 (by omega)
  rcases hD with rfl | rfl
  · show dg i ≤ 1 - 2 + (0 + dg 0 + dg 1)
    have : i = 0 ∨ i = 1 := by omega
    rcases this with rfl | rfl <;> omega
  · have a2 := h1 2 (by omega)
    show dg i ≤ 1 - 3 + (0 + dg 0 + dg 1 + dg 2)
    have : i = 0 ∨ i = 1 ∨ i = 2 := by omega
    rcases this with rfl | rfl | rfl <;> omega
theorem mIx_inj {D : Int} (hD : D = 2 ∨ D = 3) {k k' m : Int} (k0 : 0 ≤ k) (k1 : k < mSz D) (k0' : 0 ≤ k') (k1' : k' < mSz D) (m0 : 0 ≤ m) (m1 : m < mSz D) (h : mDg D k + mDg D m ≤ 17) (h' : mDg D k' + mDg D m ≤ 17) (e : mIx D k m = mIx D k' m) : k = k' := by
  obtain ⟨a1, a2, a3, _, _⟩ := mIx_E hD k0 k1 m0 m1 h
  obtain ⟨b1, b2, b3, _, _⟩ := mIx_E hD k0' k1' m0 m1 h'
  rw [e] at a1 a2 a3
  have x := (mE_at hD k0 k1).1
  have y := (mE_at hD k0' k1').1
  rw [← x, ← y]
  congr 1 <;> omega
theorem mA233 : mA 233 := ⟨by decide, by decide⟩
theorem from_bds16 {D : Int} (hD : D = 2 ∨ D = 3) {t : Int} (t0 : 0 ≤ t) (t1 : t ≤ 16 ∨ (D = 2 ∧ t ≤ 17)) : 0 ≤ mFrom D t ∧ mFrom D t + mMany D t = mFrom D (t + 1) ∧ mFrom D (t + 1) ≤ mSz D ∧ 1 ≤ mMany D t ∧ mMany D t ≤ 153 := by
  have a := mFrom_succ hD t0 (by omega)
  have b := mFrom_mono D (s := t + 1) (t := 18) (by omega) (by omega)
  rw [mFrom18] at b
  have c := mFrom_mono D (s := 0) (t := t) (by omega) t0
  have z0 : 0 ≤ mFrom D 0 := (mFrom_bd D (t := 0) (by omega) (by omega)).1
  have mm2 : ∀ t : Fin 18, 1 ≤ mMany 2 (t.val : Int) ∧ mMany 2 (t.val : Int) ≤ 153 := by decide
  have mm3 : ∀ t : Fin 17, 1 ≤ mMany 3 (t.val : Int) ∧ mMany 3 (t.val : Int) ≤ 153 := by decide
  have m2 : 1 ≤ mMany D t ∧ mMany D t ≤ 153 := by
    rcases hD with rfl | rfl
    · have := mm2 ⟨t.toNat, by omega⟩
      rw [show (((⟨t.toNat, by omega⟩ : Fin 18).val : Nat) : Int) = t by show ((t.toNat : Nat) : Int) = t; omega] at this
      exact this
    · have := mm3 ⟨t.toNat, by omega⟩
      rw [show (((⟨t.toNat, by omega⟩ : Fin 17).val : Nat) : Int) = t by show ((t.toNat : Nat) : Int) = t; omega] at this
      exact this
  exact ⟨by omega, a, b, m2.1, m2.2⟩
section MAL
variable {d : Nat} {z : cm_Z} {I : cm_I}
theorem s_areAll (hz : mz z) (hD : mD I) (hm : mMon I) (ok6 : okR (I 226)) (ok33 : okR (I 233)) {P : Nat → Int → Int} {dg : Nat → Int} (hP : ∀ i : Nat, (i : Int) < I 209 1 → isRow (I 233) (1140 * (i : Int)) (P i) ∧ mDeg (I 209 1) (P i) 0 = dg i ∧ 1 ≤ dg i ∧ dg i ≤ 15) (hs : sDg (I 209 1) dg ≤ 16 ∨ (I 209 1 = 2 ∧ sDg (I 209 1) dg ≤ 17)) : mI (d + 3) m_Model_areAll [vR 12 209] z I fun r I1 => fr [226, 227] I I1 ∧ okR (I1 226) ∧ (r = 0 ∨ r = 1) ∧ (r = 1 ↔ isAll (I 209 1) P dg) := by
  have hD' : I 209 1 = 2 ∨ I 209 1 = 3 := hD
  have hge : ∀ i : Nat, (i : Int) < I 209 1 → dg i ≤ sDg (I 209 1) dg := fun i hi => sDg_ge hD' (fun j hj => (hP j hj).2.2.1) hi
  have hm' : ∀ k, 0 ≤ k → k < mSz (I 209 1) → I 210 k = mEa (I 209 1) k ∧ I 211 k = mEb (I 209 1) k ∧ I 212 k = mEc (I 209 1) k := hm
  unfold isAll
  generalize hDD : I 209 1 = D at hD' hP hs hge hm'
  generalize hss : sDg D dg = s at hs hge
  have s0 : 0 ≤ s := by have := (hP 0 (by omega)).2.2.1; have := hge 0 (by omega); omega
  obtain ⟨w1, w2, w3, w4, w5⟩ := from_bds16 hD' s0 hs
  have hs17 : s ≤ 17 := by omega
  generalize hn : (mMany D s).toNat = n
  have hn' : mMany D s = (n : Int) := by omega
  rw [hn'] at w2 w4 w5
  generalize hX : (fun (r : Int) (I1 : cm_I) => fr [226, 227] I I1 ∧ okR (I1 226) ∧ (r = 0 ∨ r = 1) ∧ (r = 1 ↔ ∀ v, spW D P dg s D.toNat 0 v)) = X
  have l33 : mLen 233 = 3420 := rfl
  -- all of them
  have k53 : ∀ (n2 i rk : Nat) (I0 : cm_I) (z6 z7 z8 : Option cm_V), i + n2 = D.toNat → rk ≤ n → fr [226, 227] I I0 → okR (I0 226) → (∀ v, inS n rk (mx (I0 226)) v ↔ spW D P dg s i 0 v) → (n2 = 0 → ∃ m' p, gSt m' n rk (mx (I0 226)) p) → cw (d + 2) cd_Model_areAll (qI z X) 53 [some (vR 12 209), some (vI s), some (vI (n : Int)), some (vI (rk : Int)), some (vI (rk : Int)), some (vI (i : Int)), z6, z7, z8] [] (I0, z) := by
    intro n2
    induction n2 with
    | zero =>
      intro i rk I0 z6 z7 z8 ei hrk f0 o0 hsp hst
      obtain ⟨m', p, hst⟩ := hst rfl
      have full := gSt_full hst
      have e : (∀ v, inS n rk (mx (I0 226)) v) ↔ ∀ v, spW D P dg s D.toNat 0 v := by
        rw [show i = D.toNat by omega] at hsp
        exact ⟨fun h v => (hsp v).mp (h v), fun h v => (hsp v).mpr (h v)⟩
      refine mr_areAll_53 hz ⟨fun _ => ⟨fun q => qI_mk ?_, fun q => qI_mk ?_⟩, fun q => ?_⟩
      · rw [← hX]
        exact ⟨f0, o0, Or.inl rfl, ⟨fun y => absurd y (by decide), fun y => absurd (full.mpr (e.mpr y)) (by omega)⟩⟩
      · rw [← hX]
        exact ⟨f0, o0, Or.inr rfl, ⟨fun _ => e.mp (full.mp (by omega)), fun _ => rfl⟩⟩
      · rw [f0 209 (by decide), hDD] at q
        omega
    | succ n2 ih =>
      intro i rk I0 z6 z7 z8 ei hrk f0 o0 hsp hst
      have hiD : (i : Int) < D := by omega
      obtain ⟨p1, p2, p3, p4⟩ := hP i hiD
      have hgi := hge i hiD
      obtain ⟨x1, x2, x3, x4, x5⟩ := from_bds16 hD' (t := s - dg i) (by omega) (Or.inl (by omega))
      obtain ⟨y1, y2, y3, y4, y5⟩ := from_bds16 hD' (t := dg i) (by omega) (Or.inl (by omega))
      have e9 : ∀ J : cm_I, fr [226, 227] I J → J 209 = I 209 := fun J h => h 209 (by decide)
      have hD0 : mD I0 := by unfold mD; rw [e9 I0 f0]; exact hD
      have hm0 : mMon I0 := by
        unfold mMon at hm ⊢
        rw [e9 I0 f0, f0 210 (by decide), f0 211 (by decide), f0 212 (by decide)]
        exact hm
      refine mr_areAll_53 hz ⟨fun q => by rw [e9 I0 f0, hDD] at q; omega, fun _ => ⟨⟨by omega, by omega⟩, mI_mono (s_degree hz hD0 hm0 mA233 (by omega) (by omega) (by omega)) fun v3 I2 ⟨e2, ev3⟩ => ?_⟩⟩
      rw [e2]
      rw [e9 I0 f0, f0 233 (by decide), hDD, isRow_deg p1, p2] at ev3
      rw [ev3]
      refine ⟨⟨by omega, by omega⟩, mI_mono (s_from hz (by omega) (by omega)) fun v6 I5 ⟨e5, ev6⟩ => ?_⟩
      rw [e5]
      rw [e9 I0 f0, hDD] at ev6
      rw [ev6]
      -- monomials one by one
      have k88 : ∀ (n3 m : Nat) (J : cm_I) (z4 z8 : Option cm_V), (m : Int) + n3 = mMany D (s - dg i) → fr [226, 227] I J → okR (J 226) → (∀ v, inS n (rk + m) (mx (J 226)) v ↔ spW D P dg s i m v) → cw (d + 2) cd_Model_areAll (qI z X) 88 [some (vR 12 209), some (vI s), some (vI (n : Int)), some (vI ((rk + m : Nat) : Int)), z4, some (vI (i : Int)), some (vI (dg i)), some (vI (mFrom D (s - dg i) + m)), z8] [] (J, z) := by
        intro n3
        induction n3 with
        | zero =>
          intro m J z4 z8 em fJ oJ hJ
          refine mr_areAll_88 hz ⟨⟨by omega, by omega⟩, ⟨by omega, by omega⟩, mI_mono (s_from hz (by omega) (by omega)) fun v4 I3 ⟨e3, ev4⟩ => ?_⟩
          rw [e3]
          rw [e9 J fJ, hDD] at ev4
          refine ⟨fun _ => mI_mono (s_steps hz oJ (m := rk + m) (cols := n) (by omega) (by omega)) fun v6 I6 ⟨f6, o6, out6, dn, p, ev, hS, hsp6, hp6⟩ => ⟨⟨by omega, by omega⟩, ?_⟩, fun q => by omega⟩
          rw [ev]
          have := ih (i + 1) dn I6 (some (vI (dg i))) (some (vI (mFrom D (s - dg i) + m))) z8 (by omega) hS.2.1 (fr_trans fJ f6) o6 (fun v => ?_) fun _ => ⟨_, p, hS⟩
          · rw [show ((i + 1 : Nat) : Int) = (i : Int) + 1 by omega] at this
            exact this
          · rw [← inS_short (r' := rk + m) hS.1 (fun q k h1 h2 h3 => hS.2.2.2.2.2.2.2 q k h1 h2 h3) v, ← spW_next, show (mMany D (s - dg i)).toNat = m by omega, ← hJ v]
            constructor
            · intro h
              exact inS_trans h fun q hq => by
                obtain ⟨c, hc⟩ := hsp6.1 q hq
                exact ⟨c, fun k hk => hc k (by omega)⟩
            · intro h
              exact inS_trans h fun q hq => by
                obtain ⟨c, hc⟩ := hsp6.2 q hq
                exact ⟨c, fun k hk => hc k (by omega)⟩
        | succ n3 ih3 =>
          intro m J z4 z8 em fJ oJ hJ
          have mm0 : 0 ≤ mFrom D (s - dg i) + m := by omega
          have mm1 : mFrom D (s - dg i) + m < mSz D := by omega
          have dm : mDg D (mFrom D (s - dg i) + m) = s - dg i := by
            have a := (mDg_lt hD' (k := mFrom D (s - dg i) + m) (t := s - dg i) mm0 mm1 (by omega)).mp (by omega)
            have b := (mDg_ge hD' (k := mFrom D (s - dg i) + m) (t := s - dg i) mm0 mm1 (by omega)).mp (by omega)
            omega
          refine mr_areAll_88 hz ⟨⟨by omega, by omega⟩, ⟨by omega, by omega⟩, mI_mono (s_from hz (by omega) (by omega)) fun v4 I3 ⟨e3, ev4⟩ => ?_⟩
          rw [e3]
          rw [e9 J fJ, hDD] at ev4
          refine ⟨fun q => by omega, fun _ => mU_mono (s_clearsRow hz (by omega) (by omega) oJ) fun I8 ⟨f8, g8, o8⟩ => ?_⟩
          have fA : fr [226, 227] I I8 := fr_trans fJ (fr_mono f8 (by decide))
          refine mI_mono (s_from hz (by omega) (by omega)) fun v10 I9 ⟨e10, ev10⟩ => ?_
          rw [e10]
          rw [e9 I8 fA, hDD] at ev10
          rw [ev10]
          -- the factors one by one
          have k116 : ∀ (n4 k : Nat) (G : cm_I), (k : Int) + n4 = mMany D (dg i) → fr [226] J G → okR (G 226) → (∀ x, x < 160 * ((rk + m : Nat) : Int) → G 226 x = J 226 x) → (∀ j : Nat, j < n → toF (G 226 (160 * ((rk + m : Nat) : Int) + j)) = wvn D (P i) (dg i) s (mFrom D (s - dg i) + m) k j) → cw (d + 2) cd_Model_areAll (qI z X) 116 [some (vR 12 209), some (vI s), some (vI (n : Int)), some (vI ((rk + m : Nat) : Int)), z4, some (vI (i : Int)), some (vI (dg i)), some (vI (mFrom D (s - dg i) + m)), some (vI (mFrom D (dg i) + k))] [] (G, z) := by
            intro n4
            induction n4 with
            | zero =>
              intro k G ek fG oG lo row
              have fGI : fr [226, 227] I G := fr_trans fJ (fr_mono fG (by decide))
              have hsz := mSz_bd D
              refine mr_areAll_116 hz ⟨⟨by omega, by omega⟩, mI_mono (s_from hz (by omega) (by omega)) fun v3 I2 ⟨e2', ev3'⟩ => ?_⟩
              rw [e2']
              rw [e9 G fGI, hDD] at ev3'
              refine ⟨fun _ => ⟨⟨by omega, by omega⟩, ⟨by omega, by omega⟩, ?_⟩, fun q => by omega⟩
              have := ih3 (m + 1) G z4 (some (vI (mFrom D (dg i) + k))) (by omega) fGI oG fun v => ?_
              · rw [show ((rk + (m + 1) : Nat) : Int) = ((rk + m : Nat) : Int) + 1 by omega, show mFrom D (s - dg i) + ((m + 1 : Nat) : Int) = mFrom D (s - dg i) + m + 1 by omega] at this
                exact this
              · rw [show rk + (m + 1) = rk + m + 1 by omega, ← hn]
                refine spW_more (fun v => ?_) (fun j hj => ?_) v
                · rw [hn, ← hJ v]
                  constructor
                  · intro h
                    exact inS_trans h fun q hq => inS_congr (inS_row (w := mx (J 226)) (i := q) hq) fun k' hk' => by
                      unfold mx
                      rw [lo _ (by omega)]
                  · intro h
                    exact inS_trans h fun q hq => inS_congr (inS_row (w := mx (G 226)) (i := q) hq) fun k' hk' => by
                      unfold mx
                      rw [lo _ (by omega)]
                · rw [hn] at hj
                  unfold wvz
                  rw [show (mMany D (dg i)).toNat = k by omega]
                  exact row j hj
            | succ n4 ih4 =>
              intro k G ek fG oG lo row
              have fGI : fr [226, 227] I G := fr_trans fJ (fr_mono fG (by decide))
              have kk0 : 0 ≤ mFrom D (dg i) + k := by omega
              have kk1 : mFrom D (dg i) + k < mSz D := by omega
              have hsz := mSz_bd D
              have dk : mDg D (mFrom D (dg i) + k) = dg i := by
                have a := (mDg_lt hD' (k := mFrom D (dg i) + k) (t := dg i) kk0 kk1 (by omega)).mp (by omega)
                have b := (mDg_ge hD' (k := mFrom D (dg i) + k) (t := dg i) kk0 kk1 (by omega)).mp (by omega)
                omega
              obtain ⟨m1, m2, m3, m4, m5⟩ := mIx_E hD' kk0 kk1 mm0 mm1 (by omega)
              have dI : mDg D (mIx D (mFrom D (dg i) + k) (mFrom D (s - dg i) + m)) = s := by
                unfold mDg at dk dm ⊢
                omega
              have lo1 := (mDg_ge hD' (t := s) m4 m5 s0).mpr (by omega)
              have hi1 := (mDg_lt hD' (t := s) m4 m5 s0).mpr (by omega)
              have vv : I 233 (1140 * (i : Int) + (mFrom D (dg i) + k)) = P i (mFrom D (dg i) + k) := p1 _ kk0 (by omega)
              have ov := ok33 (1140 * (i : Int) + (mFrom D (dg i) + k))
              rw [vv] at ov
              have nxt : ∀ G2 : cm_I, fr [226] J G2 → okR (G2 226) → (∀ x, x < 160 * ((rk + m : Nat) : Int) → G2 226 x = J 226 x) → (∀ j : Nat, j < n → toF (G2 226 (160 * ((rk + m : Nat) : Int) + j)) = wvn D (P i) (dg i) s (mFrom D (s - dg i) + m) (k + 1) j) → cw (d + 2) cd_Model_areAll (qI z X) 116 [some (vR 12 209), some (vI s), some (vI (n : Int)), some (vI ((rk + m : Nat) : Int)), z4, some (vI (i : Int)), some (vI (dg i)), some (vI (mFrom D (s - dg i) + m)), some (vI (mFrom D (dg i) + k + 1))] [] (G2, z) := by
                intro G2 a1 a2 a3 a4
                have := ih4 (k + 1) G2 (by omega) a1 a2 a3 a4
                rw [show mFrom D (dg i) + ((k + 1 : Nat) : Int) = mFrom D (dg i) + k + 1 by omega] at this
                exact this
              refine mr_areAll_116 hz ⟨⟨by omega, by omega⟩, mI_mono (s_from hz (by omega) (by omega)) fun v3 I2 ⟨e2', ev3'⟩ => ?_⟩
              rw [e2']
              rw [e9 G fGI, hDD] at ev3'
              refine ⟨fun q => by omega, fun _ => ⟨⟨by omega, by omega⟩, ⟨by omega, by omega⟩, ⟨by omega, by omega⟩, ?_⟩⟩
              rw [fGI 233 (by decide), vv]
              refine ⟨fun q0 => ⟨⟨by omega, by omega⟩, nxt G fG oG lo fun j hj => ?_⟩, fun q0 => ?_⟩
              · rw [row j hj]
                unfold wvn
                rw [gs, q0, toF_zero]
                have : (if mIx D (mFrom D (dg i) + (k : Int)) (mFrom D (s - dg i) + (m : Int)) = mFrom D s + (j : Int) then (0 : cF) else 0) = 0 := by split <;> rfl
                rw [this]
                exact (Lean.Grind.Semiring.add_zero _).symm
              · obtain ⟨q1, q2, q3⟩ := hm' _ kk0 kk1
                obtain ⟨r1, r2, r3⟩ := hm' _ mm0 mm1
                obtain ⟨c1, c2, c3, c4, c5, c6⟩ := mE_at hD' kk0 kk1
                obtain ⟨d1, d2, d3, d4, d5, d6⟩ := mE_at hD' mm0 mm1
                have dkk : mEa D (mFrom D (dg i) + k) + mEb D (mFrom D (dg i) + k) + mEc D (mFrom D (dg i) + k) = dg i := dk
                have dmm : mEa D (mFrom D (s - dg i) + m) + mEb D (mFrom D (s - dg i) + m) + mEc D (mFrom D (s - dg i) + m) = s - dg i := dm
                rw [fGI 210 (by decide), fGI 211 (by decide), fGI 212 (by decide), q1, q2, q3, r1, r2, r3]
                refine ⟨⟨by omega, by omega⟩, ⟨by omega, by omega⟩, ⟨by omega, by omega⟩, ⟨by omega, by omega⟩, ⟨by omega, by omega⟩, ⟨by omega, by omega⟩, mI_mono (s_at hz (by omega) (by omega) (by omega) (by omega)) fun v17 I16 ⟨e16, ev17⟩ => ?_⟩
                rw [e16]
                rw [e9 G fGI, hDD] at ev17
                have ev17' : v17 = mIx D (mFrom D (dg i) + k) (mFrom D (s - dg i) + m) := ev17
                refine ⟨by rw [ev17']; exact ⟨by omega, by omega⟩, mI_mono (s_from hz s0 (by omega)) fun v20 I19 ⟨e19, ev20⟩ => ?_⟩
                rw [e19]
                rw [e9 G fGI, hDD] at ev20
                rw [fGI 233 (by decide), vv, ev17', ev20]
                refine ⟨⟨by omega, by omega⟩, ⟨by omega, by omega⟩, fun I23 e23 => ⟨⟨by omega, by omega⟩, ?_⟩⟩
                obtain ⟨f23, g23⟩ := fr_eq_iu e23
                refine nxt I23 (fr_trans fG f23) (by rw [g23]; exact okR_st oG ov.1 ov.2) (fun x hx => ?_) (fun j hj => ?_)
                · rw [g23]
                  show (if x = _ then _ else _) = _
                  rw [if_neg (by omega)]
                  exact lo x hx
                · rw [g23]
                  show toF (if 160 * ((rk + m : Nat) : Int) + (j : Int) = _ then _ else _) = _
                  unfold wvn
                  rw [gs]
                  by_cases e : mIx D (mFrom D (dg i) + k) (mFrom D (s - dg i) + m) = mFrom D s + j
                  · rw [if_pos (by omega), if_pos e]
                    rw [gs_zero]
                    · exact (Lean.Grind.AddCommMonoid.zero_add _).symm
                    · intro k' hk'
                      rw [if_neg]
                      intro e'
                      have kk0' : 0 ≤ mFrom D (dg i) + k' := by omega
                      have kk1' : mFrom D (dg i) + k' < mSz D := by omega
                      have dk' := (mDg_lt hD' (k := mFrom D (dg i) + k') (t := dg i) kk0' kk1' (by omega)).mp (by omega)
                      have := mIx_inj hD' kk0 kk1 kk0' kk1' mm0 mm1 (by omega) (by omega) (e.trans e'.symm)
                      omega
                  · rw [if_neg (by omega), if_neg e, row j hj]
                    exact (Lean.Grind.Semiring.add_zero _).symm
          have := k116 (mMany D (dg i)).toNat 0 I8 (by omega) f8 o8 (fun x hx => ?_) (fun j hj => ?_)
          · rw [show mFrom D (dg i) + ((0 : Nat) : Int) = mFrom D (dg i) by omega] at this
            exact this
          · rw [g8]
            unfold fillF
            rw [if_neg (by omega)]
          · rw [g8]
            unfold fillF
            rw [if_pos (by omega)]
            rfl
      have := k88 (mMany D (s - dg i)).toNat 0 I0 (some (vI (rk : Int))) z8 (by omega) f0 o0 (fun v => hsp v)
      rw [show mFrom D (s - dg i) + ((0 : Nat) : Int) = mFrom D (s - dg i) by omega, Nat.add_zero] at this
      exact this
  -- the degree
  have k9 : ∀ (n2 i : Nat) (z3 z4 z5 z6 z7 z8 : Option cm_V), i + n2 = D.toNat → cw (d + 2) cd_Model_areAll (qI z X) 9 [some (vR 12 209), some (vI (1 - D + sg i dg)), some (vI (i : Int)), z3, z4, z5, z6, z7, z8] [] (I, z) := by
    intro n2
    induction n2 with
    | zero =>
      intro i z3 z4 z5 z6 z7 z8 ei
      have es : 1 - D + sg i dg = s := by rw [← hss, show i = D.toNat by omega]; rfl
      rw [es]
      refine mr_areAll_9 hz ⟨fun _ => mI_mono (s_many hz s0 (by omega)) fun v2 I1 ⟨e1, ev⟩ => ?_, fun q => by rw [hDD] at q; omega⟩
      rw [e1, ev, hDD, hn']
      refine k53 D.toNat 0 0 I _ _ _ (by omega) (by omega) (fr_refl _ _) ok6 (fun v => ?_) fun h => by omega
      constructor
      · intro ⟨c, hc⟩
        exact ⟨fun _ _ => 0, fun j hj => by
          rw [hc j (by omega)]
          show (0 : cF) = 0 + 0
          decide⟩
      · intro ⟨c, hc⟩
        exact ⟨fun _ => 0, fun j hj => by
          rw [hc j (by omega)]
          show (0 : cF) + 0 = 0
          decide⟩
    | succ n2 ih =>
      intro i z3 z4 z5 z6 z7 z8 ei
      have hiD : (i : Int) < D := by omega
      obtain ⟨p1, p2, p3, p4⟩ := hP i hiD
      have bnd : 0 ≤ sg i dg ∧ sg i dg ≤ 45 := by
        have i3 : i = 0 ∨ i = 1 ∨ i = 2 := by omega
        rcases i3 with rfl | rfl | rfl
        · exact ⟨by show (0 : Int) ≤ 0; omega, by show (0 : Int) ≤ 45; omega⟩
        · have := hP 0 (by omega)
          show (0 : Int) ≤ 0 + dg 0 ∧ 0 + dg 0 ≤ 45
          omega
        · have := hP 0 (by omega)
          have := hP 1 (by omega)
          show (0 : Int) ≤ 0 + dg 0 + dg 1 ∧ 0 + dg 0 + dg 1 ≤ 45
          omega
      refine mr_areAll_9 hz ⟨fun q => by rw [hDD] at q; omega, fun _ => ⟨⟨by omega, by omega⟩, mI_mono (s_degree hz hD hm mA233 (by omega) (by omega) (by omega)) fun v5 I4 ⟨e4, ev5⟩ => ?_⟩⟩
      rw [e4]
      rw [hDD, isRow_deg p1, p2] at ev5
      rw [ev5]
      refine ⟨⟨by omega, by omega⟩, ⟨by omega, by omega⟩, ?_⟩
      have := ih (i + 1) z3 z4 z5 z6 z7 z8 (by omega)
      rw [sg_succ, show ((i + 1 : Nat) : Int) = (i : Int) + 1 by omega, show 1 - D + (sg i dg + dg i) = 1 - D + sg i dg + dg i by omega] at this
      exact this
  refine mr_areAll hz ⟨by rw [hDD]; exact ⟨by omega, by omega⟩, ?_⟩
  rw [hDD]
  have := k9 D.toNat 0 none none none none none none (by omega)
  rw [show 1 - D + sg 0 dg = 1 - D by show 1 - D + 0 = _; omega] at this
  exact this
end MAL
