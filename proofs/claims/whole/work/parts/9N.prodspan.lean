/-! PRODUCTS of a degree span what the list spans -/
theorem gen_up1 {R : Type} [Lean.Grind.CommRing R] (t p q : R) : t * (p * q) = p * t * q := by grind
theorem gen_up2 {R : Type} [Lean.Grind.CommRing R] (t p q r : R) : t * (p * (q * r)) = p * (q * t * r) := by grind
theorem gen_up3 {R : Type} [Lean.Grind.CommRing R] (t p q r s : R) : t * (p * (q * (r * s))) = p * (q * (r * t * s)) := by grind
theorem gen_111 {R : Type} [Lean.Grind.CommRing R] (u : R) : 1 * (1 * (1 * u)) = u := by grind
def sx_X (D : Int) (dg : Nat → Int) (l : List (Int × Nat)) (t : Int) : List tup4 := tJ D (dg 0) (dg 1) (dg 2) t (fun j => (sx_x l j.toNat).1) l.length 0
/-- a product as a series -/
noncomputable def sx_t (D : Int) (T : Nat → cMat) (nt : Nat) (v : Nat → Int → Int) (l : List (Int × Nat)) (x : tup4) : cP := prP (toP D (v 0)) (toP D (v 1)) (th3 D v) (sx_e D T nt l) x.1.toNat x.2.1.toNat x.2.2.1.toNat x.2.2.2.toNat
def sx_at4 (X : List tup4) (i : Nat) : tup4 := X.getD i (0, 0, 0, 0)
theorem sx_at4_mem {X : List tup4} {i : Nat} (h : i < X.length) : sx_at4 X i ∈ X ∧ X[i]? = some (sx_at4 X i) := by
  unfold sx_at4
  rw [List.getD_eq_getElem?_getD, List.getElem?_eq_getElem h]
  exact ⟨List.getElem_mem h, rfl⟩
theorem sx_at4_ex {X : List tup4} {x : tup4} (h : x ∈ X) : ∃ i, i < X.length ∧ sx_at4 X i = x := by
  obtain ⟨i, hi, e⟩ := List.getElem_of_mem h
  refine ⟨i, hi, ?_⟩
  unfold sx_at4
  rw [List.getD_eq_getElem?_getD, List.getElem?_eq_getElem hi, e]
  rfl
theorem sx_at4_inj {X : List tup4} (h : List.Pairwise (· ≠ ·) X) {i j : Nat} (hi : i < X.length) (hj : j < X.length) (e : sx_at4 X i = sx_at4 X j) : i = j := by
  unfold sx_at4 at e
  rw [List.getD_eq_getElem?_getD, List.getElem?_eq_getElem hi, List.getD_eq_getElem?_getD, List.getElem?_eq_getElem hj] at e
  have e' : X[i] = X[j] := e
  rcases Nat.lt_trichotomy i j with q | q | q
  · exact absurd e' (List.pairwise_iff_getElem.mp h i j hi hj q)
  · exact q
  · exact absurd e'.symm (List.pairwise_iff_getElem.mp h j i hj hi q)
noncomputable def sx_w (D : Int) (T : Nat → cMat) (nt : Nat) (v : Nat → Int → Int) (dg : Nat → Int) (l : List (Int × Nat)) (t : Nat) (i : Nat) : Nat → cF := sv_c D t (sx_t D T nt v l (sx_at4 (sx_X D dg l t) i))
theorem sv_cS (D t : Int) (x : cF) (u : cP) (k : Nat) : sv_c D t (cS x u) k = x * sv_c D t u k := rfl
theorem sv_cA (D t : Int) (u w : cP) (k : Nat) : sv_c D t (cAdd u w) k = sv_c D t u k + sv_c D t w k := rfl
theorem sv_cm (D t : Int) (n : Nat) (F : Nat → cP) (k : Nat) : sv_c D t (cSm n F) k = gs n fun i => sv_c D t (F i) k := rfl
/-- a factor of one degree, without the third variable where there are two: only the vector counts -/
theorem sv_lin {D : Int} (hD : D = 2 ∨ D = 3) {d m : Nat} (hm : d + m ≤ 15) {s u w : cP} (hs : sv_z D d s) (h : ∀ k, k < (mMany D (m : Int)).toNat → sv_c D m u k = sv_c D m w k) {k : Nat} (hk : k < (mMany D ((d + m : Nat) : Int)).toNat) : sv_c D ((d + m : Nat) : Int) (cMul s u) k = sv_c D ((d + m : Nat) : Int) (cMul s w) k := by
  have fb := from_bds hD (t := ((d + m : Nat) : Int)) (by omega) (by omega)
  have fb2 := from_bds hD (t := (m : Int)) (by omega) (by omega)
  obtain ⟨d0, d1, d2⟩ := sv_dg hD (t := ((d + m : Nat) : Int)) (by omega) (by omega) (K := mFrom D ((d + m : Nat) : Int) + k) (by omega) (by omega)
  obtain ⟨m1, m2, m3, m4, m5, m6⟩ := mE_at hD d1 d2
  unfold sv_c atE
  unfold mDg mEa mEb mEc at d0
  unfold mEc at m6
  generalize mE D (mFrom D ((d + m : Nat) : Int) + k) = E at d0 m6
  rw [cMul_at, cMul_at]
  refine gs_congr fun i hi => gs_congr fun j hj => gs_congr fun q hq => ?_
  by_cases e : i + j + q = d
  · congr 1
    have c0 : D = 2 → E.2.2 - q = 0 := fun e' => by have := m6 e'; omega
    have ix := sv_ix hD (a := E.1 - i) (b := E.2.1 - j) (c := E.2.2 - q) (t := m) (by omega) (by omega) c0
    have := h (mAt D ((E.1 - i : Nat) : Int) ((E.2.1 - j : Nat) : Int) ((E.2.2 - q : Nat) : Int) - mFrom D (m : Int)).toNat (by omega)
    unfold sv_c atE at this
    rw [show mFrom D (m : Int) + ((mAt D ((E.1 - i : Nat) : Int) ((E.2.1 - j : Nat) : Int) ((E.2.2 - q : Nat) : Int) - mFrom D (m : Int)).toNat : Int) = mAt D ((E.1 - i : Nat) : Int) ((E.2.1 - j : Nat) : Int) ((E.2.2 - q : Nat) : Int) by omega, sv_mE hD (by omega) c0] at this
    exact this
  · rw [hs.1 i j q e, gs_z1, gs_z1]
theorem sv_zmul {D : Int} {m n : Nat} {P Q : cP} (hP : sv_z D m P) (hQ : sv_z D n Q) : sv_z D (m + n) (cMul P Q) := by
  refine ⟨hom_mul hP.1 hQ.1, fun e a b c hc => ?_⟩
  rw [cMul_at]
  refine gs_zero fun i _ => gs_zero fun j _ => gs_zero fun q hq => ?_
  by_cases z : q = 0
  · rw [hQ.2 e _ _ (c - q) (by omega), gs_z3]
  · rw [hP.2 e i j q z, gs_z1]
theorem sv_zone (D : Int) : sv_z D 0 cOne := ⟨fun a b c h => by unfold cOne; rw [if_neg (by omega)], fun _ a b c h => by unfold cOne; rw [if_neg (by omega)]⟩
theorem sv_zpow {D : Int} {d : Nat} {P : cP} (hP : sv_z D d P) (a : Nat) : sv_z D (a * d) (cPow P a) := by
  induction a with
  | zero => rw [Nat.zero_mul]; exact sv_zone D
  | succ a ih => rw [Nat.add_mul, Nat.one_mul]; exact sv_zmul ih hP
section SP
variable {D : Int} {T : Nat → cMat} {nt n : Nat} {L : Nat → cMat} {v : Nat → Int → Int} {dg : Nat → Int}
theorem sx_z12 (S : sx_S D T nt n L v dg) : sv_z D (dg 0).toNat (toP D (v 0)) ∧ sv_z D (dg 1).toNat (toP D (v 1)) := by
  have z : ∀ u : Int → Int, D = 2 → ∀ a b c, c ≠ 0 → toP D u a b c = 0 := fun u e a b c hc => by unfold toP; rw [if_neg fun q => hc (q.2 e)]
  exact ⟨⟨(sx_hom S).1, z _⟩, ⟨(sx_hom S).2.1, z _⟩⟩
theorem sx_z3 (S : sx_S D T nt n L v dg) (h : D ≠ 2) : sv_z D (sx_3 D dg) (th3 D v) := ⟨(sx_hom S).2.2, fun e => absurd e h⟩
theorem sx_Xok (S : sx_S D T nt n L v dg) {l : List (Int × Nat)} (hl : sx_L D T nt l) {t : Nat} {x : tup4} (hx : x ∈ sx_X D dg l t) : 0 ≤ x.1 ∧ x.1.toNat < l.length ∧ 0 ≤ x.2.1 ∧ 0 ≤ x.2.2.1 ∧ 0 ≤ x.2.2.2 ∧ (D = 2 → x.2.2.2 = 0) ∧ x.2.1.toNat * (dg 0).toNat + (x.2.2.1.toNat * (dg 1).toNat + (x.2.2.2.toNat * sx_3 D dg + sx_d l x.1.toNat)) = t := by
  obtain ⟨a, b, c1, c2, c3, c4, c5⟩ := tJ_ok S.2.2.2.2.2.1 _ _ x hx
  obtain ⟨y0, y1, y2⟩ := hl _ (sx_at (l := l) (j := x.1.toNat) (by omega)).1
  have p := S.2.2.2.2.1
  refine ⟨a, by omega, c1, c2, c3, c4, ?_⟩
  have e3 : x.2.2.2 * (if D = 2 then 0 else dg 2) = ((x.2.2.2.toNat * sx_3 D dg : Nat) : Int) := by
    unfold sx_3
    by_cases e : D = 2
    · rw [if_pos e, if_pos e, c4 e]; rfl
    · rw [if_neg e, if_neg e, Int.natCast_mul]
      have := S.2.2.2.2.2.1
      rw [show ((x.2.2.2.toNat : Nat) : Int) = x.2.2.2 by omega, show (((dg 2).toNat : Nat) : Int) = dg 2 by omega]
  have e1 : x.2.1 * dg 0 = ((x.2.1.toNat * (dg 0).toNat : Nat) : Int) := by
    rw [Int.natCast_mul, show ((x.2.1.toNat : Nat) : Int) = x.2.1 by omega, show (((dg 0).toNat : Nat) : Int) = dg 0 by have := p 0 (by have := S.1; omega); omega]
  have e2 : x.2.2.1 * dg 1 = ((x.2.2.1.toNat * (dg 1).toNat : Nat) : Int) := by
    rw [Int.natCast_mul, show ((x.2.2.1.toNat : Nat) : Int) = x.2.2.1 by omega, show (((dg 1).toNat : Nat) : Int) = dg 1 by have := p 1 (by have := S.1; omega); omega]
  rw [e1, e2, e3] at c5
  unfold sx_d
  omega
theorem sx_Xin (S : sx_S D T nt n L v dg) {l : List (Int × Nat)} (hl : sx_L D T nt l) {t j a b k : Nat} (t1 : t ≤ 15) (hj : j < l.length) (hk : D = 2 → k = 0) (e : a * (dg 0).toNat + (b * (dg 1).toNat + (k * sx_3 D dg + sx_d l j)) = t) : ((j : Int), (a : Int), (b : Int), (k : Int)) ∈ sx_X D dg l t := by
  obtain ⟨y0, y1, y2⟩ := hl _ (sx_at hj).1
  have p := S.2.2.2.2.1
  have hD := S.1
  have p0 := p 0 (by omega)
  have p1 := p 1 (by omega)
  have p2 := S.2.2.2.2.2.1
  refine tJ_all p0.2.2.2.1 p1.2.2.2.1 p2 (by omega) (by show 0 ≤ (sx_x l (j : Int).toNat).1; rw [Int.toNat_natCast]; exact y0) (by omega) (by omega) (by omega) (fun e' => by rw [hk e']; rfl) ?_ _ _ (by omega) (by omega)
  have e3 : (k : Int) * (if D = 2 then 0 else dg 2) = ((k * sx_3 D dg : Nat) : Int) := by
    unfold sx_3
    by_cases e : D = 2
    · rw [if_pos e, if_pos e, hk e]; rfl
    · rw [if_neg e, if_neg e, Int.natCast_mul, show (((dg 2).toNat : Nat) : Int) = dg 2 by omega]
  have e1 : (a : Int) * dg 0 = ((a * (dg 0).toNat : Nat) : Int) := by rw [Int.natCast_mul, show (((dg 0).toNat : Nat) : Int) = dg 0 by omega]
  have e2 : (b : Int) * dg 1 = ((b * (dg 1).toNat : Nat) : Int) := by rw [Int.natCast_mul, show (((dg 1).toNat : Nat) : Int) = dg 1 by omega]
  rw [e1, e2, e3]
  show _ = (t : Int) - (sx_x l (j : Int).toNat).1
  rw [Int.toNat_natCast]
  unfold sx_d at e
  omega
/-- a product is spanned, and has its degree -/
theorem sx_tz (S : sx_S D T nt n L v dg) {l : List (Int × Nat)} (hl : sx_L D T nt l) {t : Nat} {x : tup4} (hx : x ∈ sx_X D dg l t) : sx_p D T nt v dg l t (sx_t D T nt v l x) ∧ sv_z D t (sx_t D T nt v l x) := by
  obtain ⟨x0, x1, x2, x3, x4, x5, x6⟩ := sx_Xok S hl hx
  refine ⟨?_, ?_⟩
  · have := sx_pw1 (sx_pw2 (sx_pw3 (pSp_gen (t1 := toP D (v 0)) (t2 := toP D (v 1)) (t3 := th3 D v) (d1 := (dg 0).toNat) (d2 := (dg 1).toNat) (d3 := sx_3 D dg) (et := sx_e D T nt l) (de := sx_d l) x1) x.2.2.2.toNat) x.2.2.1.toNat) x.2.1.toNat
    rw [x6] at this
    exact this
  · obtain ⟨z1, z2⟩ := sx_z12 S
    have ze := (sx_einv S hl x1).2
    have z3 : sv_z D (x.2.2.2.toNat * sx_3 D dg) (cPow (th3 D v) x.2.2.2.toNat) := by
      by_cases e : D = 2
      · rw [x5 e]
        show sv_z D (0 * _) cOne
        rw [Nat.zero_mul]
        exact sv_zone D
      · exact sv_zpow (sx_z3 S e) _
    have := sv_zmul (sv_zpow z1 x.2.1.toNat) (sv_zmul (sv_zpow z2 x.2.2.1.toNat) (sv_zmul z3 ze))
    rw [x6] at this
    exact this
theorem pr_up {t1 t2 t3 : cP} {et : Nat → cP} (j a b k : Nat) : cMul t1 (prP t1 t2 t3 et j a b k) = prP t1 t2 t3 et j (a + 1) b k ∧ cMul t2 (prP t1 t2 t3 et j a b k) = prP t1 t2 t3 et j a (b + 1) k ∧ cMul t3 (prP t1 t2 t3 et j a b k) = prP t1 t2 t3 et j a b (k + 1) :=
  ⟨@gen_up1 cP cPr t1 (cPow t1 a) (cMul (cPow t2 b) (cMul (cPow t3 k) (et j))), @gen_up2 cP cPr t2 (cPow t1 a) (cPow t2 b) (cMul (cPow t3 k) (et j)), @gen_up3 cP cPr t3 (cPow t1 a) (cPow t2 b) (cPow t3 k) (et j)⟩
theorem pr_0 {t1 t2 t3 : cP} {et : Nat → cP} (j : Nat) : prP t1 t2 t3 et j 0 0 0 = et j := by
  show cMul cOne (cMul cOne (cMul cOne (et j))) = et j
  rw [cOne_eq]
  exact @gen_111 cP cPr (et j)
/-- what is spanned is a sum of products -/
theorem sx_span (S : sx_S D T nt n L v dg) {l : List (Int × Nat)} (hl : sx_L D T nt l) {m : Nat} {u : cP} (h : sx_p D T nt v dg l m u) (m15 : m ≤ 15) : inS (mMany D m).toNat (sx_X D dg l m).length (sx_w D T nt v dg l m) (sv_c D m u) := by
  have hD := S.1
  obtain ⟨z1, z2⟩ := sx_z12 S
  have row : ∀ {m' : Nat} {x : tup4} {u' : cP}, x ∈ sx_X D dg l m' → u' = sx_t D T nt v l x → inS (mMany D m').toNat (sx_X D dg l m').length (sx_w D T nt v dg l m') (sv_c D m' u') := by
    intro m' x u' hx e
    obtain ⟨i, hi, ei⟩ := sx_at4_ex hx
    have := inS_row (n := (mMany D m').toNat) (w := sx_w D T nt v dg l m') hi
    unfold sx_w at this
    rw [ei, ← e] at this
    exact this
  have mul : ∀ {d m' : Nat} {s u' : cP}, d + m' ≤ 15 → sv_z D d s → (∀ x, x ∈ sx_X D dg l m' → ∃ y, y ∈ sx_X D dg l ((d + m' : Nat) : Int) ∧ cMul s (sx_t D T nt v l x) = sx_t D T nt v l y) → inS (mMany D m').toNat (sx_X D dg l m').length (sx_w D T nt v dg l m') (sv_c D m' u') → inS (mMany D ((d + m' : Nat) : Int)).toNat (sx_X D dg l ((d + m' : Nat) : Int)).length (sx_w D T nt v dg l (d + m')) (sv_c D ((d + m' : Nat) : Int) (cMul s u')) := by
    intro d m' s u' hm' zs' up hu'
    obtain ⟨c, hc⟩ := hu'
    have e1 : ∀ k, k < (mMany D (m' : Int)).toNat → sv_c D m' u' k = sv_c D m' (cSm (sx_X D dg l m').length fun i => cS (c i) (sx_t D T nt v l (sx_at4 (sx_X D dg l m') i))) k := hc
    refine inS_congr (u := lc (sx_X D dg l m').length c fun i => sv_c D ((d + m' : Nat) : Int) (cMul s (sx_t D T nt v l (sx_at4 (sx_X D dg l m') i)))) (inS_lc fun i hi => ?_) fun k hk => ?_
    · obtain ⟨y, hy, ey⟩ := up _ (sx_at4_mem hi).1
      exact row hy ey
    · rw [sv_lin hD hm' zs' e1 hk, cMul_Sm]
      show gs _ (fun i => sv_c D ((d + m' : Nat) : Int) (cMul s (cS (c i) (sx_t D T nt v l (sx_at4 (sx_X D dg l m') i)))) k) = _
      exact gs_congr fun i _ => by rw [cMul_S2]; rfl
  refine h (fun m u => m ≤ 15 → inS (mMany D m).toNat (sx_X D dg l m).length (sx_w D T nt v dg l m) (sv_c D m u)) ?_ ?_ ?_ ?_ ?_ ?_ ?_ m15
  · intro j hj h15
    exact row (sx_Xin S hl (j := j) (a := 0) (b := 0) (k := 0) h15 hj (fun _ => rfl) (by omega)) (pr_0 j).symm
  · intro m' u' ih h15
    refine mul h15 z1 (fun x hx => ?_) (ih (by omega))
    obtain ⟨x0, x1, x2, x3, x4, x5, x6⟩ := sx_Xok S hl hx
    refine ⟨_, sx_Xin S hl (j := x.1.toNat) (a := x.2.1.toNat + 1) (b := x.2.2.1.toNat) (k := x.2.2.2.toNat) h15 x1 (fun e => by rw [x5 e]; rfl) (by rw [Nat.add_mul]; omega), ?_⟩
    unfold sx_t
    rw [(pr_up _ _ _ _).1]
    simp only [Int.toNat_natCast]
  · intro m' u' ih h15
    refine mul h15 z2 (fun x hx => ?_) (ih (by omega))
    obtain ⟨x0, x1, x2, x3, x4, x5, x6⟩ := sx_Xok S hl hx
    refine ⟨_, sx_Xin S hl (j := x.1.toNat) (a := x.2.1.toNat) (b := x.2.2.1.toNat + 1) (k := x.2.2.2.toNat) h15 x1 (fun e => by rw [x5 e]; rfl) (by rw [Nat.add_mul]; omega), ?_⟩
    unfold sx_t
    rw [(pr_up _ _ _ _).2.1]
    simp only [Int.toNat_natCast]
  · intro m' u' ih h15
    by_cases e : D = 2
    · have e3 : th3 D v = zs 1 := if_pos e
      refine inS_congr inS_zero fun k hk => ?_
      have fb := from_bds hD (t := ((sx_3 D dg + m' : Nat) : Int)) (by omega) (by omega)
      obtain ⟨d0, d1, d2⟩ := sv_dg hD (t := ((sx_3 D dg + m' : Nat) : Int)) (by omega) (by omega) (K := mFrom D ((sx_3 D dg + m' : Nat) : Int) + k) (by omega) (by omega)
      have m6 := (mE_at hD d1 d2).2.2.2.2.2 e
      unfold mEc at m6
      unfold sv_c atE
      rw [e3, zs_mul, if_neg (by omega)]
    · refine mul h15 (sx_z3 S e) (fun x hx => ?_) (ih (by omega))
      obtain ⟨x0, x1, x2, x3, x4, x5, x6⟩ := sx_Xok S hl hx
      refine ⟨_, sx_Xin S hl (j := x.1.toNat) (a := x.2.1.toNat) (b := x.2.2.1.toNat) (k := x.2.2.2.toNat + 1) h15 x1 (fun e' => absurd e' e) (by rw [Nat.add_mul]; omega), ?_⟩
      unfold sx_t
      rw [(pr_up _ _ _ _).2.2]
      simp only [Int.toNat_natCast]
  · intro m' u' w' hu' hw' h15
    exact inS_add (hu' h15) (hw' h15)
  · intro m' x u' hu' h15
    exact inS_smul x (hu' h15)
  · intro m' h15
    exact inS_congr inS_zero fun k hk => rfl
/-- and the other way -/
theorem sx_span' (S : sx_S D T nt n L v dg) {l : List (Int × Nat)} (hl : sx_L D T nt l) {m : Nat} (m15 : m ≤ 15) {u : cP} (hu : sv_z D m u) : sx_p D T nt v dg l m u ↔ inS (mMany D m).toNat (sx_X D dg l m).length (sx_w D T nt v dg l m) (sv_c D m u) := by
  refine ⟨fun h => sx_span S hl h m15, fun ⟨c, hc⟩ => ?_⟩
  have e : u = cSm (sx_X D dg l m).length fun i => cS (c i) (sx_t D T nt v l (sx_at4 (sx_X D dg l m) i)) :=
    sv_ext S.1 m15 hu (sv_zsum fun i hi => sv_zS _ (sx_tz S hl (sx_at4_mem hi).1).2) hc
  rw [e]
  exact pSp_Sm _ _ fun i hi => pSp_S _ (sx_tz S hl (sx_at4_mem hi).1).1
end SP
