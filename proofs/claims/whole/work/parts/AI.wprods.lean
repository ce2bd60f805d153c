/-! THE CLASS's members: products, orders, the common power -/
section WGP
variable {d : Nat} {z : cm_Z} {I : cm_I} {D : Int} {mb n nt : Nat} {T L : Nat → cMat} {op : Nat → Nat → Nat}
/-- steps as far as they stand (before table t of member g); where members came from -/
def mbS (T L : Nat → cMat) (nt n mb g t : Nat) (I : cm_I) : Prop := (∀ g' t' : Nat, (g' < g ∨ (g' = g ∧ t' < t)) → g' < n → t' < nt → ∃ k : Nat, k < n ∧ I (mb + 3) (4 * (g' : Int) + t') = k ∧ L k = mm (L g') (T t')) ∧ ∀ h : Nat, 0 < h → h < n → ∃ a b : Nat, a < h ∧ b < nt ∧ I (mb + 7) (h : Int) = a ∧ I (mb + 8) (h : Int) = b ∧ L h = mm (L a) (T b)
theorem t_fillProducts (hz : wz z) (pm : isMb mb) (G : isG T nt n L) (nt4 : nt ≤ 4) (en : I mb 2 = (n : Int)) (S : mbS T L nt n mb n 0 I) : mU (d + 1) m_Members_fillProducts [vR 3 mb] z I fun I1 => fr [mb + 4] I I1 ∧ ∀ g h : Nat, g < n → h < n → I1 (mb + 4) (48 * (g : Int) + h) = (gm n L g h : Int) := by
  obtain ⟨S1, S2⟩ := S
  have n48 := G.2.1
  have key : ∀ (c g : Nat) (z2 z3 : Option cm_V) (J : cm_I), g + c = n → fr [mb + 4] I J → (∀ g' h : Nat, g' < g → h < n → J (mb + 4) (48 * (g' : Int) + h) = (gm n L g' h : Int)) → cw d cd_Members_fillProducts (qU z fun I1 => fr [mb + 4] I I1 ∧ ∀ g h : Nat, g < n → h < n → I1 (mb + 4) (48 * (g : Int) + h) = (gm n L g h : Int)) 2 [some (vR 3 mb), some (vI (g : Int)), z2, z3] [] (J, z) := by
    intro c
    induction c with
    | zero =>
      intro g z2 z3 J e hf hp
      refine wr_Members_fillProducts_2 hz pm ?_
      rw [hf mb (by simp), en]
      exact ⟨fun _ => qU_mk ⟨hf, fun g' h a b => hp g' h (by omega) b⟩, fun q => by omega⟩
    | succ c ih =>
      intro g z2 z3 J e hf hp
      have inner : ∀ (u h : Nat) (J : cm_I), h + u = n → 1 ≤ h → fr [mb + 4] I J → (∀ g' h : Nat, g' < g → h < n → J (mb + 4) (48 * (g' : Int) + h) = (gm n L g' h : Int)) → (∀ h' : Nat, h' < h → J (mb + 4) (48 * (g : Int) + h') = (gm n L g h' : Int)) → cw d cd_Members_fillProducts (qU z fun I1 => fr [mb + 4] I I1 ∧ ∀ g h : Nat, g < n → h < n → I1 (mb + 4) (48 * (g : Int) + h) = (gm n L g h : Int)) 24 [some (vR 3 mb), some (vI (g : Int)), some (vI (48 * (g : Int))), some (vI (h : Int))] [] (J, z) := by
        intro u
        induction u with
        | zero =>
          intro h J e2 h1 hf hp hq
          refine wr_Members_fillProducts_24 hz pm ?_
          rw [hf mb (by simp), en]
          refine ⟨fun _ => ⟨⟨by omega, by omega⟩, ih (g + 1) _ _ J (by omega) hf fun g' h' a b => ?_⟩, fun q => by omega⟩
          by_cases w : g' = g
          · rw [w]; exact hq h' (by omega)
          · exact hp g' h' (by omega) b
        | succ u ihu =>
          intro h J e2 h1 hf hp hq
          obtain ⟨a, b, a1, b1, ea, eb, eL⟩ := S2 h (by omega) (by omega)
          have pq := hq a a1
          obtain ⟨ga, gL⟩ := gm_lt G (show g < n by omega) (show a < n by omega)
          obtain ⟨k, k1, ek, kL⟩ := S1 (gm n L g a) b (Or.inl ga) ga b1
          refine wr_Members_fillProducts_24 hz pm ?_
          rw [hf mb (by simp), en, hf (mb + 7) (by simp), hf (mb + 8) (by simp), hf (mb + 3) (by simp), ea, eb, pq, ek]
          refine ⟨fun q => by omega, fun _ => ⟨⟨by omega, by omega⟩, ⟨by omega, by omega⟩, ⟨by omega, by omega⟩, ⟨by omega, by omega⟩, ⟨by omega, by omega⟩, ⟨by omega, by omega⟩, ⟨by omega, by omega⟩, ⟨by omega, by omega⟩, fun J2 e3 => ⟨⟨by omega, by omega⟩, ?_⟩⟩⟩
          obtain ⟨f3, g3⟩ := fr_eq_iu e3
          have kg : gm n L g h = k := (gm_eq G (show g < n by omega) (show h < n by omega) k1).mpr (by rw [kL, gL, eL, mm_assoc])
          refine ihu (h + 1) J2 (by omega) (by omega) (fr_trans hf f3) (fun g' h' x y => ?_) fun h' x => ?_
          · rw [g3]
            show (if 48 * (g' : Int) + h' = 48 * (g : Int) + h then _ else _) = _
            rw [if_neg (by omega)]; exact hp g' h' x y
          · rw [g3]
            show (if 48 * (g : Int) + h' = 48 * (g : Int) + h then _ else _) = _
            by_cases w : h' = h
            · rw [w, if_pos rfl, kg]
            · rw [if_neg (by omega)]; exact hq h' (by omega)
      refine wr_Members_fillProducts_2 hz pm ?_
      rw [hf mb (by simp), en]
      refine ⟨fun q => by omega, fun _ => ⟨⟨by omega, by omega⟩, ⟨by omega, by omega⟩, fun J2 e3 => ?_⟩⟩
      obtain ⟨f3, g3⟩ := fr_eq_iu e3
      refine inner (n - 1) 1 J2 (by omega) (by omega) (fr_trans hf f3) (fun g' h' x y => ?_) fun h' x => ?_
      · rw [g3]
        show (if 48 * (g' : Int) + h' = 48 * (g : Int) then _ else _) = _
        rw [if_neg (by omega)]; exact hp g' h' x y
      · rw [g3]
        show (if 48 * (g : Int) + h' = 48 * (g : Int) then _ else _) = _
        rw [show h' = 0 by omega, if_pos (by omega), gm_zero G (by omega)]
  refine wr_Members_fillProducts hz pm ?_
  exact key n 0 none none I (by omega) (fr_refl _ _) fun g' h' x _ => absurd x (Nat.not_lt_zero g')
theorem t_fillOrders (hz : wz z) (pm : isMb mb) (G : isGrp n op) (n48 : n ≤ 48) (en : I mb 2 = (n : Int)) (ep : ∀ g h : Nat, g < n → h < n → I (mb + 4) (48 * (g : Int) + h) = (op g h : Int)) : mU (d + 1) m_Members_fillOrders [vR 3 mb] z I fun I1 => fr [mb + 5, mb + 6] I I1 ∧ (∀ g : Nat, g < n → I1 (mb + 5) (g : Int) = (giv op n g : Int)) ∧ ∀ g : Nat, g < n → I1 (mb + 6) (g : Int) = (gord op n g : Int) := by
  have key : ∀ (c g : Nat) (z2 z3 z4 : Option cm_V) (J : cm_I), g + c = n → fr [mb + 5, mb + 6] I J → (∀ g' : Nat, g' < g → J (mb + 5) (g' : Int) = (giv op n g' : Int)) → (∀ g' : Nat, g' < g → J (mb + 6) (g' : Int) = (gord op n g' : Int)) → cw d cd_Members_fillOrders (qU z fun I1 => fr [mb + 5, mb + 6] I I1 ∧ (∀ g : Nat, g < n → I1 (mb + 5) (g : Int) = (giv op n g : Int)) ∧ ∀ g : Nat, g < n → I1 (mb + 6) (g : Int) = (gord op n g : Int)) 2 [some (vR 3 mb), some (vI (g : Int)), z2, z3, z4] [] (J, z) := by
    intro c
    induction c with
    | zero =>
      intro g z2 z3 z4 J e hf h1 h2
      refine wr_Members_fillOrders_2 hz pm ?_
      rw [hf mb (by simp), en]
      exact ⟨fun _ => qU_mk ⟨hf, fun g' a => h1 g' (by omega), fun g' a => h2 g' (by omega)⟩, fun q => by omega⟩
    | succ c ih =>
      intro g z2 z3 z4 J e hf h1 h2
      have hg : g < n := by omega
      obtain ⟨go, gn⟩ := gord_ok G hg
      have at50 : ∀ (r : Nat) (z2 : Option cm_V), isOrd op g r → cw d cd_Members_fillOrders (qU z fun I1 => fr [mb + 5, mb + 6] I I1 ∧ (∀ g : Nat, g < n → I1 (mb + 5) (g : Int) = (giv op n g : Int)) ∧ ∀ g : Nat, g < n → I1 (mb + 6) (g : Int) = (gord op n g : Int)) 50 [some (vR 3 mb), some (vI (g : Int)), z2, some (vI (pw op g (r - 1) : Int)), some (vI (r : Int))] [] (J, z) := by
        intro r z2 hr
        refine wr_Members_fillOrders_50 hz pm ⟨⟨by omega, by omega⟩, fun J2 e2 J3 e3 => ⟨⟨by omega, by omega⟩, ?_⟩⟩
        obtain ⟨f2, g2⟩ := fr_eq_iu e2
        obtain ⟨f3, g3⟩ := fr_eq_iu e3
        have er : r = gord op n g := ord_uniq hr go
        have ei : pw op g (r - 1) = giv op n g := (giv_eq G hg (pw_lt G hg _)).mp (by
          have := pw_add G hg 1 (r - 1)
          rw [pw_one G hg, show 1 + (r - 1) = r by have := hr.1; omega, hr.2.1] at this
          exact this.symm)
        refine ih (g + 1) _ _ _ J3 (by omega) (fr_trans hf (fr_trans (fr_mono f2 (by simp)) (fr_mono f3 (by simp)))) (fun g' a => ?_) fun g' a => ?_
        · rw [g3]
          show (if (g' : Int) = g then _ else _) = _
          by_cases w : g' = g
          · rw [w, if_pos rfl, ei]
          · rw [if_neg (by omega), f2 (mb + 5) (by simp)]; exact h1 g' (by omega)
        · rw [f3 (mb + 6) (by simp), g2]
          show (if (g' : Int) = g then _ else _) = _
          by_cases w : g' = g
          · rw [w, if_pos rfl, er]
          · rw [if_neg (by omega)]; exact h2 g' (by omega)
      have at17 : ∀ (u r : Nat), r + u = gord op n g → 1 ≤ r → cw d cd_Members_fillOrders (qU z fun I1 => fr [mb + 5, mb + 6] I I1 ∧ (∀ g : Nat, g < n → I1 (mb + 5) (g : Int) = (giv op n g : Int)) ∧ ∀ g : Nat, g < n → I1 (mb + 6) (g : Int) = (gord op n g : Int)) 17 [some (vR 3 mb), some (vI (g : Int)), some (vI (pw op g r : Int)), some (vI (pw op g (r - 1) : Int)), some (vI (r : Int))] [] (J, z) := by
        intro u
        induction u with
        | zero =>
          intro r e1 r1
          have er : r = gord op n g := by omega
          refine wr_Members_fillOrders_17 hz pm ⟨fun _ => at50 r _ (by rw [er]; exact go), fun q => absurd ?_ q⟩
          rw [er, go.2.1]; rfl
        | succ u ihu =>
          intro r e1 r1
          have nz := go.2.2 r r1 (by omega)
          have pl := pw_lt G hg r
          refine wr_Members_fillOrders_17 hz pm ⟨fun q => by omega, fun _ => ?_⟩
          rw [hf mb (by simp), en, hf (mb + 4) (by simp), ep _ _ pl hg]
          exact ⟨fun q => by omega, fun _ => ⟨⟨by omega, by omega⟩, ⟨by omega, by omega⟩, ⟨by omega, by omega⟩, ⟨by omega, by omega⟩, ihu (r + 1) (by omega) (by omega)⟩⟩
      refine wr_Members_fillOrders_2 hz pm ?_
      rw [hf mb (by simp), en]
      refine ⟨fun q => by omega, fun _ => ?_⟩
      have := at17 (gord op n g - 1) 1 (by have := go.1; omega) (by omega)
      rw [pw_one G hg] at this
      exact this
  refine wr_Members_fillOrders hz pm ?_
  exact key n 0 none none none I (by omega) (fr_refl _ _) (fun g' x => absurd x (Nat.not_lt_zero g')) fun g' x => absurd x (Nat.not_lt_zero g')
theorem gord_dvd_glcm {n : Nat} : ∀ {m g : Nat}, g < m → gord op n g ∣ glcm op n m := by
  intro m
  induction m with
  | zero => intro g h; exact absurd h (Nat.not_lt_zero g)
  | succ m ih =>
    intro g h
    show _ ∣ Nat.lcm (glcm op n m) (gord op n m)
    by_cases e : g = m
    · rw [e]; exact Nat.dvd_lcm_right _ _
    · exact Nat.dvd_trans (ih (by omega)) (Nat.dvd_lcm_left _ _)
theorem glcm_dvd_of {n p : Nat} : ∀ {m : Nat}, (∀ g, g < m → gord op n g ∣ p) → glcm op n m ∣ p := by
  intro m
  induction m with
  | zero => intro _; exact Nat.one_dvd p
  | succ m ih => intro h; exact Nat.lcm_dvd (ih fun g a => h g (by omega)) (h m (by omega))
theorem t_commonPower (hz : wz z) (pm : isMb mb) (h : mbP op n mb I) : mI (d + 2) m_Members_commonPower [vR 3 mb] z I fun r I1 => I1 = I ∧ r = glcm op n n := by
  obtain ⟨G, n48, en, ep, ei, eo⟩ := h
  obtain ⟨gd, gp⟩ := glcm_dvd G (Nat.le_refl n)
  have gle : glcm op n n ≤ n := Nat.le_of_dvd G.1 gd
  have key : ∀ (c p : Nat) (z2 : Option cm_V), p + c = n → 1 ≤ p → p ≤ glcm op n n → cw (d + 1) cd_Members_commonPower (qI z fun r I1 => I1 = I ∧ r = glcm op n n) 2 [some (vR 3 mb), some (vI (p : Int)), z2] [] (I, z) := by
    intro c
    induction c with
    | zero =>
      intro p z2 e p1 p2
      refine wr_Members_commonPower_2 hz pm ?_
      rw [en]
      exact ⟨fun _ => qI_mk ⟨rfl, by omega⟩, fun q => by omega⟩
    | succ c ih =>
      intro p z2 e p1 p2
      have at39 : ∀ k : Nat, k ≤ n → (∀ g, g < k → gord op n g ∣ p) → (k < n → ¬ gord op n k ∣ p) → cw (d + 1) cd_Members_commonPower (qI z fun r I1 => I1 = I ∧ r = glcm op n n) 39 [some (vR 3 mb), some (vI (p : Int)), some (vI (k : Int))] [] (I, z) := by
        intro k kn al no
        refine wr_Members_commonPower_39 hz pm ?_
        rw [en]
        refine ⟨fun q => ⟨⟨by omega, by omega⟩, ih (p + 1) _ (by omega) (by omega) ?_⟩, fun q => qI_mk ⟨rfl, ?_⟩⟩
        · have ne : p ≠ glcm op n n := fun w => no (by omega) (by rw [w]; exact gord_dvd_glcm (by omega))
          omega
        · have := Nat.le_of_dvd (by omega) (glcm_dvd_of (op := op) (n := n) (p := p) (m := n) fun g hg => al g (by omega))
          omega
      have at12 : ∀ (u k : Nat), k + u = n → (∀ g, g < k → gord op n g ∣ p) → cw (d + 1) cd_Members_commonPower (qI z fun r I1 => I1 = I ∧ r = glcm op n n) 12 [some (vR 3 mb), some (vI (p : Int)), some (vI (k : Int))] [] (I, z) := by
        intro u
        induction u with
        | zero =>
          intro k ek al
          refine wr_Members_commonPower_12 hz pm ?_
          rw [en]
          exact ⟨fun _ => at39 k (by omega) al fun q => by omega, fun q => by omega⟩
        | succ u ihu =>
          intro k ek al
          have ok := (gord_ok G (show k < n by omega)).1.1
          refine wr_Members_commonPower_12 hz pm ?_
          rw [en, eo k (by omega)]
          have dv : (Int.tmod (p : Int) (gord op n k : Int) = 0) ↔ gord op n k ∣ p := by
            rw [tmod_pos (by omega), Nat.dvd_iff_mod_eq_zero]
            omega
          refine ⟨fun q => by omega, fun _ => ⟨⟨by omega, by omega⟩, mI_mono (t_divides (d := d) hz (by omega)) fun v J0 ⟨eJ, ev⟩ => ?_⟩⟩
          rw [eJ]
          refine ⟨fun w0 => at39 k (by omega) al fun _ w => ?_, fun w0 => ⟨⟨by omega, by omega⟩, ihu (k + 1) (by omega) fun g hg => ?_⟩⟩
          · rcases ev with ⟨_, b⟩ | ⟨a, _⟩
            · exact b (dv.mpr w)
            · omega
          · have q : Int.tmod (p : Int) (gord op n k : Int) = 0 := by
              rcases ev with ⟨a, _⟩ | ⟨_, b⟩
              · exact absurd a w0
              · exact b
            by_cases w : g = k
            · rw [w]; exact dv.mp q
            · exact al g (by omega)
      refine wr_Members_commonPower_2 hz pm ?_
      rw [en]
      exact ⟨fun q => by omega, fun _ => at12 n 0 (by omega) fun g hg => absurd hg (Nat.not_lt_zero g)⟩
  refine wr_Members_commonPower hz pm ?_
  have n1 := G.1
  exact key (n - 1) 1 none (by omega) (by omega) gp
/-- the second of the numbers of which trace is the first and determinant the last -/
def mMid (D : Int) (A : cMat) : cF := if D = 2 then A 0 0 * A 1 1 - A 0 1 * A 1 0 else A 0 0 * A 1 1 - A 0 1 * A 1 0 + (A 0 0 * A 2 2 - A 0 2 * A 2 0) + (A 1 1 * A 2 2 - A 1 2 * A 2 1)
theorem t_middle (hz : wz z) (pm : isMb mb) (hD : D = 2 ∨ D = 3) (e0 : I mb 0 = D) (oc : okR (I (mb + 2))) {g : Int} (g0 : 0 ≤ g) (g1 : g < 48) : mI (d + 2) m_Members_middle [vR 3 mb, vI g] z I fun r I1 => I1 = I ∧ r = fi (mMid D (wmat D (I (mb + 2)) g)) := by
  have o := fun k => oc k
  refine wr_Members_middle hz pm ?_
  rw [e0]
  rcases hD with e | e <;> subst e
  · refine ⟨⟨by omega, by omega⟩, ⟨by omega, by omega⟩, ⟨by omega, by omega⟩, ⟨by omega, by omega⟩, ⟨by omega, by omega⟩, ⟨by omega, by omega⟩, ⟨by omega, by omega⟩, ⟨by omega, by omega⟩, mI_mono (t_minor hz (o _) (o _) (o _) (o _)) fun v1 J1 ⟨e1, w1⟩ => ?_⟩
    subst e1
    rw [e0]
    refine ⟨fun _ => qI_mk ⟨rfl, ?_⟩, fun q => absurd q (by decide)⟩
    rw [tmod_pos (by omega), w1, Int.emod_emod, ← fi_toF]
    congr 1
    rw [toF_sub, toF_mul, toF_mul]
    unfold mMid
    rw [if_pos rfl, wmat_in (by decide), wmat_in (by decide), wmat_in (by decide), wmat_in (by decide)]
    rw [show 9 * g + 2 * ((0 : Nat) : Int) + ((0 : Nat) : Int) = 9 * g by omega, show 9 * g + 2 * ((0 : Nat) : Int) + ((1 : Nat) : Int) = 9 * g + 1 by omega, show 9 * g + 2 * ((1 : Nat) : Int) + ((0 : Nat) : Int) = 9 * g + 2 by omega, show 9 * g + 2 * ((1 : Nat) : Int) + ((1 : Nat) : Int) = 9 * g + 2 + 1 by omega]
  · refine ⟨⟨by omega, by omega⟩, ⟨by omega, by omega⟩, ⟨by omega, by omega⟩, ⟨by omega, by omega⟩, ⟨by omega, by omega⟩, ⟨by omega, by omega⟩, ⟨by omega, by omega⟩, ⟨by omega, by omega⟩, mI_mono (t_minor hz (o _) (o _) (o _) (o _)) fun v1 J1 ⟨e1, w1⟩ => ?_⟩
    subst e1
    rw [e0]
    refine ⟨fun q => absurd rfl q, fun _ => ⟨⟨by omega, by omega⟩, ⟨by omega, by omega⟩, ⟨by omega, by omega⟩, ⟨by omega, by omega⟩, ⟨by omega, by omega⟩, ⟨by omega, by omega⟩, mI_mono (t_minor hz (o _) (o _) (o _) (o _)) fun v2 J2 ⟨e2, w2⟩ => ?_⟩⟩
    subst e2
    refine ⟨⟨by omega, by omega⟩, ⟨by omega, by omega⟩, ⟨by omega, by omega⟩, ⟨by omega, by omega⟩, ⟨by omega, by omega⟩, ⟨by omega, by omega⟩, ⟨by omega, by omega⟩, mI_mono (t_minor hz (o _) (o _) (o _) (o _)) fun v3 J3 ⟨e3, w3⟩ => ?_⟩
    subst e3
    refine ⟨⟨by omega, by omega⟩, qI_mk ⟨rfl, ?_⟩⟩
    rw [tmod_pos (by omega), ← fi_toF]
    congr 1
    rw [toF_add, toF_add, w1, w2, w3, toF_mod, toF_mod, toF_mod, toF_sub, toF_sub, toF_sub, toF_mul, toF_mul, toF_mul, toF_mul, toF_mul, toF_mul]
    unfold mMid
    rw [if_neg (by decide)]
    rw [wmat_in (i := 0) (j := 0) (by decide), wmat_in (i := 0) (j := 1) (by decide), wmat_in (i := 1) (j := 0) (by decide), wmat_in (i := 1) (j := 1) (by decide), wmat_in (i := 0) (j := 2) (by decide), wmat_in (i := 2) (j := 0) (by decide), wmat_in (i := 2) (j := 2) (by decide), wmat_in (i := 1) (j := 2) (by decide), wmat_in (i := 2) (j := 1) (by decide)]
    rw [show 9 * g + 3 * ((0 : Nat) : Int) + ((0 : Nat) : Int) = 9 * g by omega, show 9 * g + 3 * ((0 : Nat) : Int) + ((1 : Nat) : Int) = 9 * g + 1 by omega, show 9 * g + 3 * ((0 : Nat) : Int) + ((2 : Nat) : Int) = 9 * g + 2 by omega, show 9 * g + 3 * ((1 : Nat) : Int) + ((0 : Nat) : Int) = 9 * g + 3 by omega, show 9 * g + 3 * ((1 : Nat) : Int) + ((1 : Nat) : Int) = 9 * g + 4 by omega, show 9 * g + 3 * ((1 : Nat) : Int) + ((2 : Nat) : Int) = 9 * g + 5 by omega, show 9 * g + 3 * ((2 : Nat) : Int) + ((0 : Nat) : Int) = 9 * g + 6 by omega, show 9 * g + 3 * ((2 : Nat) : Int) + ((1 : Nat) : Int) = 9 * g + 7 by omega, show 9 * g + 3 * ((2 : Nat) : Int) + ((2 : Nat) : Int) = 9 * g + 8 by omega]
    rw [show 9 * g + 3 + 1 = 9 * g + 4 by omega]
end WGP
