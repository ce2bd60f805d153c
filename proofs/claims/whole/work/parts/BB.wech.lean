/-! THE CLASS: rows in steps -/
def ecM (J : cm_I) (q n : Nat) : Nat → Nat → cF := fun i k => toF (J q ((n : Int) * i + k))
/-- rank r; row i has its first number, 1, in column p i -/
def ecS (n r : Nat) (p : Nat → Nat) (q : Nat) (J : cm_I) : Prop := J 63 0 = (n : Int) ∧ J 63 1 = (r : Int) ∧ okR (J q) ∧ (∀ i, i < r → p i < n ∧ J 65 (p i : Int) = i) ∧ (∀ c : Nat, c < n → J 65 (c : Int) = -1 ∨ ∃ i, i < r ∧ p i = c) ∧ ∀ i, i < r → ecM J q n i (p i) = 1 ∧ ∀ k, k < p i → ecM J q n i k = 0
theorem ec_g2 {R : Type} [Lean.Grind.CommRing R] (a b : R) : a + b = b + a := by grind
theorem ec_g3 {R : Type} [Lean.Grind.CommRing R] (a : R) : -1 * a = - a := by grind
theorem ec_g4 {R : Type} [Lean.Grind.CommRing R] {a b : R} (h : 0 = a + b) : a = -1 * b := by grind
theorem ec_g5 {R : Type} [Lean.Grind.CommRing R] (a b : R) : a * b = b * a := by grind
theorem ec_g6 {R : Type} [Lean.Grind.CommRing R] (a : R) : 0 = a + - a * 1 := by grind
theorem ec_g7 {R : Type} [Lean.Grind.CommRing R] (a b c : R) : a + (0 - b) * c = a + - b * c := by grind
theorem ec_g8 {R : Type} [Lean.Grind.CommRing R] (a : R) : a + - a * 1 = 0 := by grind
section WEC
variable {d : Nat} {z : cm_Z} {I : cm_I} {n q : Nat}
theorem t_subtract (hz : wz z) (y : z.1 63 2 = q) (q0 : 0 < q) (en : I 63 0 = (n : Int)) (n153 : n ≤ 153) {a : Nat} (a0 : 0 < a) (na : a ≠ 63) {w : Nat} {x f B : Int} {c : Nat} (hc : c < n) (x0 : 0 ≤ x) (x1 : x ≤ 1000000) (xl : x + n ≤ z.2.1 a) (w0 : (n : Int) * w + n ≤ z.2.1 q) (w1 : (n : Int) * w ≤ 1000000) (f0 : 0 ≤ f) (f1 : f ≤ 2521) (hB : B ≤ 1500000000) (ob : ∀ i : Int, 0 ≤ i → i < n → 0 ≤ I a (x + i) ∧ I a (x + i) ≤ B) (oq : ∀ c : Int, 0 ≤ c → c < n → 0 ≤ I q ((n : Int) * w + c) ∧ I q ((n : Int) * w + c) < 2521) (dis : a = q → (x + n ≤ (n : Int) * w ∨ (n : Int) * w + n ≤ x)) : mU (d + 1) m_Echelon_subtract [vR 1 63, vI (w : Int), vI f, vR 20 a, vI x, vI (c : Int)] z I fun I1 => fr [a] I I1 ∧ ∀ k, I1 a k = if k = x + c then 0 else if x + c < k ∧ k < x + n then I a k + f * I q ((n : Int) * w + (k - x)) else I a k := by
  have nw : 0 ≤ (n : Int) * w := Int.mul_nonneg (by omega) (by omega)
  have L : ∀ (u : Nat) (i : Int) (J : cm_I) (z1 z5 : Option cm_V), (c : Int) < i → i + u = n → fr [a] I J → (∀ k, J a k = if k = x + c then 0 else if x + c < k ∧ k < x + i then I a k + f * I q ((n : Int) * w + (k - x)) else I a k) → cw d cd_Echelon_subtract (qU z fun I1 => fr [a] I I1 ∧ ∀ k, I1 a k = if k = x + c then 0 else if x + c < k ∧ k < x + n then I a k + f * I q ((n : Int) * w + (k - x)) else I a k) 22 [some (vR 1 63), z1, some (vI f), some (vR 20 a), some (vI x), z5, some (vI ((n : Int) * w)), some (vI i)] [] (J, z) := by
    intro u
    induction u with
    | zero =>
      intro i J z1 z5 i0 ei hf hk
      refine wr_Echelon_subtract_22 hz a0 y q0 ?_
      rw [hf 63 (by simp; omega), en]
      refine ⟨fun _ => qU_mk ⟨hf, fun k => ?_⟩, fun w => by omega⟩
      rw [hk k, show i = n by omega]
    | succ u ih =>
      intro i J z1 z5 i0 ei hf hk
      have jq : J q ((n : Int) * w + i) = I q ((n : Int) * w + i) := by
        by_cases e : q = a
        · have dd := dis e.symm
          rw [e, hk, if_neg (by omega), if_neg (by omega), ← e]
        · rw [hf q (by simp; omega)]
      have ja : J a (x + i) = I a (x + i) := by rw [hk, if_neg (by omega), if_neg (by omega)]
      have o1 := ob i (by omega) (by omega)
      have o2 := oq i (by omega) (by omega)
      have pr := mul_bd (x := f) (y := I q ((n : Int) * w + i)) (X := 2521) (Y := 2520) f0 f1 o2.1 (by omega)
      refine wr_Echelon_subtract_22 hz a0 y q0 ?_
      rw [hf 63 (by simp; omega), en, jq, ja]
      refine ⟨fun w => by omega, fun _ => ⟨⟨by omega, by omega⟩, ⟨by omega, by omega⟩, ⟨by omega, by omega⟩, ⟨by omega, by omega⟩, ⟨by omega, by omega⟩, ⟨by omega, by omega⟩, fun J7 e7 => ⟨⟨by omega, by omega⟩, ?_⟩⟩⟩
      obtain ⟨f7, g7⟩ := fr_eq_iu e7
      refine ih (i + 1) J7 _ _ (by omega) (by omega) (fr_trans hf f7) fun k => ?_
      rw [g7]
      show (if k = x + i then _ else J a k) = _
      by_cases e : k = x + i
      · rw [if_pos e, if_neg (by omega), if_pos (by omega), e, show x + i - x = i by omega]
      · rw [if_neg e, hk k]
        by_cases e2 : k = x + c
        · rw [if_pos e2, if_pos e2]
        · rw [if_neg e2, if_neg e2]
          by_cases e3 : x + c < k ∧ k < x + i
          · rw [if_pos e3, if_pos (by omega)]
          · rw [if_neg e3, if_neg (by omega)]
  refine wr_Echelon_subtract hz a0 ?_
  rw [en]
  refine ⟨⟨by omega, by omega⟩, ⟨by omega, by omega⟩, ⟨by omega, by omega⟩, fun J4 e4 => ⟨⟨by omega, by omega⟩, ?_⟩⟩
  obtain ⟨f4, g4⟩ := fr_eq_iu e4
  refine L (n - c - 1) ((c : Int) + 1) J4 _ _ (by omega) (by omega) f4 fun k => ?_
  rw [g4]
  show (if k = x + c then 0 else I a k) = _
  by_cases e : k = x + c
  · rw [if_pos e, if_pos e]
  · rw [if_neg e, if_neg e, if_neg (by omega)]
theorem ec_g1 {R : Type} [Lean.Grind.CommRing R] (w l f m : R) : w + l + f * m = w + (f * m + l) := by grind
theorem ec_p {r : Nat} {p : Nat → Nat} {J : cm_I} (h : ecS n r p q J) {i j : Nat} (hi : i < r) (hj : j < r) (e : p i = p j) : i = j := by
  have a := (h.2.2.2.1 i hi).2
  have b := (h.2.2.2.1 j hj).2
  rw [e, b] at a
  omega
/-- a column without a row: fewer rows than columns -/
theorem ec_room {r : Nat} {p : Nat → Nat} {J : cm_I} (h : ecS n r p q J) {c : Nat} (hc : c < n) (nc : J 65 (c : Int) < 0) : r < n := by
  apply Classical.byContradiction
  intro w
  obtain ⟨x, x1, x2⟩ := pigeon n p (fun i hi => (h.2.2.2.1 i (by omega)).1) (fun i j hi hj e => ec_p h (by omega) (by omega) e) c hc
  have := (h.2.2.2.1 x (by omega)).2
  rw [x2] at this
  omega
theorem lc_upd {r : Nat} {M : Nat → Nat → cF} {c : Nat → cF} {i : Nat} (hi : i < r) (f : cF) (k : Nat) : lc r (fun j => c j + (if j = i then f else 0)) M k = f * M i k + lc r c M k := by
  rw [lc_add, show (fun j => if j = i then f else (0 : cF)) = fun j => f * (if j = i then 1 else 0) by funext j; split; exact (st_g5 f).symm; exact (gs_z3 f).symm, lc_smul, lc_one hi]
  exact ec_g2 _ _
/-- a row is told: it is a sum of those there are, or one more -/
def inP (n r q : Nat) (p : Nat → Nat) (w : Nat → cF) (I I1 : cm_I) : Prop := (ecS n r p q I1 ∧ I1 q = I q ∧ inS n r (ecM I q n) w) ∨ ∃ c, c < n ∧ ecS n (r + 1) (fun i => if i = r then c else p i) q I1 ∧ (∀ i k, i < r → k < n → ecM I1 q n i k = ecM I q n i k) ∧ ∃ (e e' : cF) (l : Nat → cF), e * e' = 1 ∧ ∀ k, k < n → ecM I1 q n r k = e * (w k + lc r l (ecM I q n) k)
theorem t_insert (hz : wz z) (y : z.1 63 2 = q) (q0 : 0 < q) (n153 : n ≤ 153) (qn : q ∉ [63, 65]) {r : Nat} {p : Nat → Nat} (hE : ecS n r p q I) (ql : (n : Int) * n ≤ z.2.1 q) {a : Nat} (a0 : 0 < a) (na : a ∉ [63, 65, q]) (al : (n : Int) ≤ z.2.1 a) (oa : ∀ k : Int, 0 ≤ k → k < n → 0 ≤ I a k ∧ I a k ≤ 1000000) : mU (d + 3) m_Echelon_insert [vR 1 63, vR 20 a] z I fun I1 => fr [63, 65, q, a] I I1 ∧ inP n r q p (fun k => toF (I a (k : Int))) I I1 := by
  obtain ⟨s1, s2, s3, s4, s5, s6⟩ := id hE
  have na63 : a ≠ 63 := fun e => na (by rw [e]; simp)
  have na65 : a ≠ 65 := fun e => na (by rw [e]; simp)
  have naq : a ≠ q := fun e => na (by rw [e]; simp)
  have q63 : q ≠ 63 := fun e => qn (by rw [e]; simp)
  have q65 : q ≠ 65 := fun e => qn (by rw [e]; simp)
  have nn : ∀ i : Nat, i < n → 0 ≤ (n : Int) * i ∧ (n : Int) * i + n ≤ (n : Int) * n ∧ (n : Int) * i ≤ 23409 := by
    intro i hi
    have a1 : (n : Int) * i ≤ (n : Int) * (n - 1) := Int.mul_le_mul_of_nonneg_left (by omega) (by omega)
    rw [Int.mul_sub, Int.mul_one] at a1
    have a2 : 0 ≤ (n : Int) * i := Int.mul_nonneg (by omega) (by omega)
    have a3 := mul_bd (x := (n : Int)) (y := (n : Int)) (X := 153) (Y := 153) (by omega) (by omega) (by omega) (by omega)
    exact ⟨a2, by omega, by omega⟩
  -- the row is cleared
  have key : ∀ (u c : Nat) (J : cm_I) (l : Nat → cF) (z3 z4 z5 : Option cm_V), c + u = n → fr [a] I J → (∀ k : Int, 0 ≤ k → k < n → 0 ≤ J a k ∧ J a k ≤ 1000000 + c * 6353000) → (∀ k : Nat, k < n → toF (J a (k : Int)) = toF (I a (k : Int)) + lc r l (ecM I q n) k) → (∀ k : Nat, k < c → toF (J a (k : Int)) = 0) → cw (d + 2) cd_Echelon_insert (qU z fun I1 => fr [63, 65, q, a] I I1 ∧ inP n r q p (fun k => toF (I a (k : Int))) I I1) 2 [some (vR 1 63), some (vR 20 a), some (vI (c : Int)), z3, z4, z5] [] (J, z) := by
    intro u
    induction u with
    | zero =>
      intro c J l z3 z4 z5 ec hf hb hl hz0
      have cn : c = n := by omega
      subst cn
      have c63 : J 63 = I 63 := hf 63 (by simp; omega)
      refine wr_Echelon_insert_2 hz a0 ?_
      rw [c63, s1]
      refine ⟨fun _ => wr_Echelon_insert_65 hz a0 y ?_, fun w => by omega⟩
      rw [c63, s1]
      refine ⟨fun w => absurd rfl w, fun _ => qU_mk ⟨fr_mono hf (by simp), Or.inl ⟨?_, hf q (by simp; omega), ?_⟩⟩⟩
      · unfold ecS ecM
        rw [c63, hf q (by simp; omega), hf 65 (by simp; omega)]
        exact hE
      · refine ⟨fun i => - l i, fun k hk => ?_⟩
        have h1 := hl k hk
        rw [hz0 k hk] at h1
        have h2 := lc_smul r (-1) l (ecM I q c) k
        rw [show (fun i => (-1 : cF) * l i) = fun i => - l i by funext i; exact ec_g3 _] at h2
        rw [h2]
        exact ec_g4 h1
    | succ u ih =>
      intro c J l z3 z4 z5 ec hf hb hl hz0
      have hc : c < n := by omega
      have c63 : J 63 = I 63 := hf 63 (by simp; omega)
      have c65 : J 65 = I 65 := hf 65 (by simp; omega)
      have cq : J q = I q := hf q (by simp; omega)
      have bc := hb (c : Int) (by omega) (by omega)
      have tz : (J a (c : Int)) % 2521 = 0 ↔ toF (J a (c : Int)) = 0 := by
        have := toF_eq (x := J a (c : Int)) (y := 0)
        rw [toF_zero] at this
        rw [this]
        omega
      -- a column that is 0 already
      have zero : (J a (c : Int)) % 2521 = 0 → ∀ z3 z4 z5 : Option cm_V, cw (d + 2) cd_Echelon_insert (qU z fun I1 => fr [63, 65, q, a] I I1 ∧ inP n r q p (fun k => toF (I a (k : Int))) I I1) 29 [some (vR 1 63), some (vR 20 a), some (vI (c : Int)), z3, z4, z5] [] (J, z) := by
        intro e z3 z4 z5
        refine wr_Echelon_insert_29 hz a0 ⟨⟨by omega, by omega⟩, ?_⟩
        rw [tmod_pos bc.1]
        refine ⟨fun _ => ⟨⟨by omega, by omega⟩, ih (c + 1) J l _ _ _ (by omega) hf (fun k k0 k1 => ?_) hl fun k hk => ?_⟩, fun w => absurd e w⟩
        · have := hb k k0 k1; omega
        · by_cases w : k = c
          · rw [w]; exact tz.mp e
          · exact hz0 k (by omega)
      refine wr_Echelon_insert_2 hz a0 ?_
      rw [c63, s1, tmod_pos bc.1, c65]
      refine ⟨fun w => by omega, fun _ => ⟨⟨by omega, by omega⟩, fun e => zero e _ _ _, fun ne => ⟨⟨by omega, by omega⟩, fun neg => ?_, fun pos => ?_⟩⟩⟩
      · -- a new row
        have rn := ec_room hE hc neg
        obtain ⟨nr0, nr1, nr2⟩ := nn r rn
        refine wr_Echelon_insert_65 hz a0 y ?_
        rw [c63, s1, s2, tmod_pos bc.1]
        refine ⟨fun _ => ⟨⟨by omega, by omega⟩, ⟨by omega, by omega⟩, mI_mono (t_inv (d := d + 1) hz (by omega) (by omega)) fun v4 I3 ⟨e3, ev4⟩ => ?_⟩, fun w => by omega⟩
        subst e3
        refine ⟨⟨by omega, by omega⟩, mU_mono (t_fill4 (d := d) hz q0 nr0 (by omega) (by omega) (by omega)) fun I6 e6 => ?_⟩
        obtain ⟨f6, g6⟩ := fr_eq_iw e6
        have wv : fInv (toF (I3 a (c : Int) % 2521)) = fInv (toF (I3 a (c : Int))) := by rw [toF_mod]
        rw [wv] at ev4
        have nz : toF (I3 a (c : Int)) ≠ 0 := fun w => ne (tz.mpr w)
        have bv := fi_bd (fInv (toF (I3 a (c : Int))))
        rw [← ev4] at bv
        have L114 : ∀ (u : Nat) (k : Int) (K : cm_I), (c : Int) ≤ k → k + u = n → fr [q] I3 K → (∀ j, K q j = if (n : Int) * r ≤ j ∧ j < (n : Int) * r + c then 0 else if (n : Int) * r + c ≤ j ∧ j < (n : Int) * r + k then (I3 a (j - (n : Int) * r) % 2521 * v4) % 2521 else I q j) → cw (d + 2) cd_Echelon_insert (qU z fun I1 => fr [63, 65, q, a] I I1 ∧ inP n r q p (fun k => toF (I a (k : Int))) I I1) 114 [some (vR 1 63), some (vR 20 a), some (vI (c : Int)), some (vI ((n : Int) * r)), some (vI v4), some (vI k)] [] (K, z) := by
          intro u
          induction u with
          | zero =>
            intro k K k0 ek hfK hK
            have kn : k = n := by omega
            subst kn
            have d63 : K 63 = I 63 := by rw [hfK 63 (by simp; omega), c63]
            have d65 : K 65 = I 65 := by rw [hfK 65 (by simp; omega), c65]
            refine wr_Echelon_insert_114 hz y a0 q0 ?_
            rw [d63, s1, s2]
            refine ⟨fun _ => ⟨⟨by omega, by omega⟩, fun I2 e2 => ?_⟩, fun w => by omega⟩
            obtain ⟨f2, g2⟩ := fr_eq_iu e2
            rw [f2 63 (by simp), d63, s2]
            refine ⟨⟨by omega, by omega⟩, fun I4 e4 => qU_mk ?_⟩
            obtain ⟨f4, g4⟩ := fr_eq_iu e4
            have f24 : fr [63, 65] K I4 := fr_trans (fr_mono f2 (by simp)) (fr_mono f4 (by simp))
            have h4q : I4 q = K q := f24 q qn
            have h463 : I4 63 = fun j => if j = 1 then (r : Int) + 1 else I 63 j := by rw [g4, f2 63 (by simp), d63]
            have h465 : I4 65 = fun j => if j = (c : Int) then (r : Int) else I 65 j := by rw [f4 65 (by simp), g2, d65]
            refine ⟨fr_trans (fr_mono hf (by simp)) (fr_trans (fr_mono hfK (by simp)) (fr_mono f24 (by simp))), Or.inr ⟨c, hc, ⟨?_, ?_, ?_, fun i hi => ?_, fun c' hc' => ?_, fun i hi => ?_⟩, fun i k hi hk => ?_, fInv (toF (I3 a (c : Int))), toF (I3 a (c : Int)), l, ?_, fun k hk => ?_⟩⟩
            · rw [h463]; simp; exact s1
            · rw [h463]; simp
            · rw [h4q]
              intro j
              rw [hK j]
              split
              · omega
              · split
                · omega
                · exact s3 j
            · show (if i = r then c else p i) < n ∧ I4 65 ((if i = r then c else p i : Nat) : Int) = i
              rw [h465]
              by_cases w : i = r
              · rw [if_pos w]
                exact ⟨hc, by show (if (c : Int) = c then (r : Int) else _) = i; rw [if_pos rfl, w]⟩
              · rw [if_neg w]
                obtain ⟨x1, x2⟩ := s4 i (by omega)
                refine ⟨x1, ?_⟩
                show (if (p i : Int) = c then (r : Int) else I 65 (p i)) = i
                rw [if_neg, x2]
                intro w2
                rw [w2] at x2
                omega
            · rw [h465]
              show (if (c' : Int) = c then (r : Int) else I 65 c') = -1 ∨ ∃ i, i < r + 1 ∧ (if i = r then c else p i) = c'
              by_cases w : c' = c
              · right
                exact ⟨r, by omega, by rw [if_pos rfl]; exact w.symm⟩
              · rw [if_neg (by omega)]
                rcases s5 c' hc' with x | ⟨i, i1, i2⟩
                · exact Or.inl x
                · exact Or.inr ⟨i, by omega, by rw [if_neg (by omega)]; exact i2⟩
            · show ecM I4 q n i (if i = r then c else p i) = 1 ∧ ∀ k, k < (if i = r then c else p i) → ecM I4 q n i k = 0
              unfold ecM
              rw [h4q]
              by_cases w : i = r
              · rw [if_pos w, w]
                refine ⟨?_, fun k hk => ?_⟩
                · rw [hK, if_neg (by omega), if_pos (by omega), toF_mod, toF_mul, toF_mod, show (n : Int) * r + c - (n : Int) * r = c by omega, ev4, toF_fi]
                  exact fInv_mul nz
                · rw [hK, if_pos (by omega), toF_zero]
              · rw [if_neg w]
                obtain ⟨x1, x2⟩ := s6 i (by omega)
                have lt : (n : Int) * i + n ≤ (n : Int) * r := by
                  have := Int.mul_le_mul_of_nonneg_left (show (i : Int) + 1 ≤ r by omega) (show (0 : Int) ≤ n by omega)
                  rw [Int.mul_add, Int.mul_one] at this
                  exact this
                have pi := (s4 i (by omega)).1
                refine ⟨?_, fun k hk => ?_⟩
                · rw [hK, if_neg (by omega), if_neg (by omega)]; exact x1
                · rw [hK, if_neg (by omega), if_neg (by omega)]; exact x2 k hk
            · have lt : (n : Int) * i + n ≤ (n : Int) * r := by
                have := Int.mul_le_mul_of_nonneg_left (show (i : Int) + 1 ≤ r by omega) (show (0 : Int) ≤ n by omega)
                rw [Int.mul_add, Int.mul_one] at this
                exact this
              unfold ecM
              rw [h4q, hK, if_neg (by omega), if_neg (by omega)]
            · rw [ec_g5]
              exact fInv_mul nz
            · show ecM I4 q n r k = fInv (toF (I3 a (c : Int))) * (toF (I a (k : Int)) + lc r l (ecM I q n) k)
              rw [← hl k hk]
              unfold ecM
              rw [h4q, hK]
              by_cases w : k < c
              · rw [if_pos (by omega), hz0 k w, toF_zero, gs_z3]
              · rw [if_neg (by omega), if_pos (by omega), toF_mod, toF_mul, toF_mod, show (n : Int) * r + k - (n : Int) * r = k by omega, ev4, toF_fi]
                exact ec_g5 _ _
          | succ u ihu =>
            intro k K k0 ek hfK hK
            have d63 : K 63 = I 63 := by rw [hfK 63 (by simp; omega), c63]
            have da : K a = I3 a := hfK a (by simp; omega)
            have bk := hb k (by omega) (by omega)
            have pr := mul_bd (x := I3 a k % 2521) (y := v4) (X := 2520) (Y := 2520) (by omega) (by omega) (by omega) (by omega)
            refine wr_Echelon_insert_114 hz y a0 q0 ?_
            rw [d63, s1, da, tmod_pos bk.1, tmod_pos pr.1]
            refine ⟨fun w => by omega, fun _ => ⟨⟨by omega, by omega⟩, ⟨by omega, by omega⟩, ⟨by omega, by omega⟩, ⟨by omega, by omega⟩, fun I9 e9 => ⟨⟨by omega, by omega⟩, ?_⟩⟩⟩
            obtain ⟨f9, g9⟩ := fr_eq_iu e9
            refine ihu (k + 1) I9 (by omega) (by omega) (fr_trans hfK f9) fun j => ?_
            rw [g9]
            show (if j = (n : Int) * r + k then _ else K q j) = _
            by_cases w : j = (n : Int) * r + k
            · rw [if_pos w, if_neg (by omega), if_pos (by omega), w, show (n : Int) * r + k - (n : Int) * r = k by omega]
            · rw [if_neg w, hK j]
              by_cases w1 : (n : Int) * r ≤ j ∧ j < (n : Int) * r + c
              · rw [if_pos w1, if_pos w1]
              · rw [if_neg w1, if_neg w1]
                by_cases w2 : (n : Int) * r + c ≤ j ∧ j < (n : Int) * r + k
                · rw [if_pos w2, if_pos (by omega)]
                · rw [if_neg w2, if_neg (by omega)]
        refine L114 (n - c) (c : Int) I6 (Int.le_refl _) (by omega) f6 fun j => ?_
        rw [g6, cq]
        unfold fillF
        by_cases w1 : (n : Int) * r ≤ j ∧ j < (n : Int) * r + c
        · rw [if_pos w1, if_pos (by omega)]
        · rw [if_neg w1, if_neg (by omega), if_neg (by omega)]
      · -- a row is taken off
        obtain ⟨i, i1, i2⟩ : ∃ i, i < r ∧ p i = c := by
          rcases s5 c hc with x | x
          · omega
          · exact x
        have ri := (s4 i i1).2
        rw [i2] at ri
        obtain ⟨m1, m2⟩ := s6 i i1
        rw [i2] at m1 m2
        have irn : i < n := by
          have : r ≤ n := by
            apply Classical.byContradiction
            intro w
            obtain ⟨x, x1, x2⟩ := pigeon n p (fun i hi => (s4 i (by omega)).1) (fun i j hi hj e => ec_p hE (by omega) (by omega) e) (p n) (s4 n (by omega)).1
            have := ec_p hE (by omega) (by omega) x2
            omega
          omega
        obtain ⟨nr0, nr1, nr2⟩ := nn i irn
        refine wr_Echelon_insert_29 hz a0 ⟨⟨by omega, by omega⟩, ?_⟩
        rw [tmod_pos bc.1, c65, ri]
        refine ⟨fun w => absurd w ne, fun _ => ⟨⟨by omega, by omega⟩, ⟨by omega, by omega⟩, mU_mono (t_subtract (d := d + 1) (B := 1000000 + c * 6353000) hz y q0 (by rw [c63]; exact s1) n153 a0 na63 hc (Int.le_refl 0) (by decide) (by omega) (by omega) (by omega) (by omega) (by omega) (by omega) (fun j j0 j1 => by rw [Int.zero_add]; exact hb j j0 j1) (fun j _ _ => by rw [cq]; exact s3 _) (fun w => absurd w naq)) fun I5 ⟨x1, x2⟩ => ⟨⟨by omega, by omega⟩, ?_⟩⟩⟩
        have new : ∀ k : Nat, k < n → toF (I5 a (k : Int)) = toF (J a (k : Int)) + (- toF (J a (c : Int))) * ecM I q n i k := by
          intro k hk
          rw [x2 (k : Int)]
          unfold ecM
          by_cases w : k = c
          · rw [if_pos (by omega), w]
            unfold ecM at m1
            rw [m1, toF_zero]
            exact ec_g6 _
          · rw [if_neg (by omega)]
            by_cases w2 : c < k
            · rw [if_pos (by omega), cq, show (n : Int) * i + ((k : Int) - 0) = (n : Int) * i + k by omega, toF_add, toF_mul, toF_sub, toF_mod, show toF 2521 = 0 from rfl]
              exact ec_g7 _ _ _
            · rw [if_neg (by omega)]
              have := m2 k (by omega)
              unfold ecM at this
              rw [this, gs_z3, cr_a0]
        refine ih (c + 1) I5 (fun j => l j + (if j = i then - toF (J a (c : Int)) else 0)) _ _ _ (by omega) (fr_trans hf x1) (fun k k0 k1 => ?_) (fun k hk => ?_) fun k hk => ?_
        · have b := hb k k0 k1
          have o2 := s3 ((n : Int) * i + (k - 0))
          have pr := mul_bd (x := 2521 - J a (c : Int) % 2521) (y := I q ((n : Int) * i + (k - 0))) (X := 2521) (Y := 2520) (by omega) (by omega) o2.1 (by omega)
          rw [x2 k, cq]
          split
          · omega
          · split
            · omega
            · omega
        · rw [new k hk, hl k hk, lc_upd i1]
          exact ec_g1 _ _ _ _
        · rw [new k (by omega)]
          by_cases w : k = c
          · rw [w, m1]; exact ec_g8 _
          · rw [hz0 k (by omega), m2 k (by omega), gs_z3, cr_00]
  refine wr_Echelon_insert hz ?_
  refine key n 0 I (fun _ => 0) _ _ _ (by omega) (fr_refl _ _) (fun k k0 k1 => ?_) (fun k hk => ?_) fun k hk => absurd hk (Nat.not_lt_zero k)
  · have := oa k k0 k1; omega
  · rw [lc_zero, cr_a0]
end WEC
