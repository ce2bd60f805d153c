/-! THE PRODUCTS of a degree, whatever their order: pure -/
noncomputable def pxL (D : Int) (T : Nat → cMat) (nt : Nat) (v : Nat → Int → Int) (dg : Nat → Int) : List (Int × Nat) := seAll D T nt v dg 16
noncomputable def pxV (D : Int) (T : Nat → cMat) (nt : Nat) (v : Nat → Int → Int) (dg : Nat → Int) (t : Nat) (x : tup4) : Nat → cF := sv_c D t (sx_t D T nt v (pxL D T nt v dg) x)
def pxX (D : Int) (T : Nat → cMat) (nt : Nat) (v : Nat → Int → Int) (dg : Nat → Int) (t : Nat) (x : tup4) : Prop := x ∈ sx_X D dg (pxL D T nt v dg) (t : Int)
def upT (τ : Nat) (x : tup4) : tup4 := if τ = 0 then (x.1, x.2.1 + 1, x.2.2.1, x.2.2.2) else if τ = 1 then (x.1, x.2.1, x.2.2.1 + 1, x.2.2.2) else (x.1, x.2.1, x.2.2.1, x.2.2.2 + 1)
def lastP (x : tup4) : Nat := if x.2.2.2 ≠ 0 then 3 else if x.2.2.1 ≠ 0 then 2 else if x.2.1 ≠ 0 then 1 else 0
theorem upT_inj {τ : Nat} {x y : tup4} (h : upT τ x = upT τ y) : x = y := by
  obtain ⟨x1, x2, x3, x4⟩ := x
  obtain ⟨y1, y2, y3, y4⟩ := y
  unfold upT at h
  split at h
  · simp at h
    obtain ⟨h1, h2, h3, h4⟩ := h
    rw [h1, h2, h3, h4]
  · split at h
    · simp at h
      obtain ⟨h1, h2, h3, h4⟩ := h
      rw [h1, h2, h3, h4]
    · simp at h
      obtain ⟨h1, h2, h3, h4⟩ := h
      rw [h1, h2, h3, h4]
section PX
variable {D : Int} {T : Nat → cMat} {nt n : Nat} {L : Nat → cMat} {v : Nat → Int → Int} {dg : Nat → Int}
theorem px_L : sx_L D T nt (pxL D T nt v dg) := (seAll_ok 16 (Nat.le_refl _)).1.1
theorem px_ind (S : sx_S D T nt n L v dg) {t m : Nat} (t1 : t ≤ 15) {X : Nat → tup4} (hX : ∀ i, i < m → pxX D T nt v dg t (X i)) (hi : ∀ i j, i < m → j < m → X i = X j → i = j) : rInd (mMany D t).toNat m fun i => pxV D T nt v dg t (X i) := by
  intro c hc
  obtain ⟨Y, hY⟩ : ∃ Y, Y = sx_X D dg (pxL D T nt v dg) (t : Int) := ⟨_, rfl⟩
  have nd : List.Pairwise (· ≠ ·) Y := by rw [hY]; exact tJ_nd S.2.2.2.2.2.1 _ _
  have hE := sx_hE S (Nat.le_refl 16) (seAll_ok 16 (Nat.le_refl _)).1 (seAll_ok 16 (Nat.le_refl _)).2
  have key := sx_ind S px_L hE t1 (fun i' => gs m fun i => if sx_at4 Y i' = X i then c i else 0) (by
    intro k hk
    rw [← hY]
    show gs Y.length (fun i' => (gs m fun i => if sx_at4 Y i' = X i then c i else 0) * sx_w D T nt v dg (pxL D T nt v dg) t i' k) = 0
    refine Eq.trans ?_ (hc k hk)
    rw [gs_congr (g := fun i' => gs m fun i => if sx_at4 Y i' = X i then c i * pxV D T nt v dg t (X i) k else 0) fun i' _ => ?_, gs_swap]
    · unfold lc
      refine gs_congr fun i hi' => ?_
      have mem := hX i hi'
      unfold pxX at mem
      rw [← hY] at mem
      obtain ⟨j, j1, j2⟩ := sx_at4_ex mem
      rw [gs_one (k := j) j1 fun i' h1 ne => if_neg fun e => ne (sx_at4_inj nd h1 j1 (e.trans j2.symm)), if_pos j2]
    · rw [← gs_mulr]
      refine gs_congr fun i _ => ?_
      by_cases e : sx_at4 Y i' = X i
      · rw [if_pos e, if_pos e]
        show _ * sv_c D t (sx_t D T nt v (pxL D T nt v dg) (sx_at4 (sx_X D dg (pxL D T nt v dg) t) i')) k = _
        rw [← hY, e]
        rfl
      · rw [if_neg e, if_neg e, gs_z1])
  intro i hi'
  have mem := hX i hi'
  unfold pxX at mem
  rw [← hY] at mem key
  obtain ⟨j, j1, j2⟩ := sx_at4_ex mem
  have := key j j1
  rw [gs_one (k := i) hi' fun i' h1 ne => if_neg fun e => ne (hi i' i h1 hi' (e.symm.trans j2)), if_pos j2] at this
  exact this
theorem px_z (S : sx_S D T nt n L v dg) {t : Nat} {x : tup4} (hx : pxX D T nt v dg t x) : sv_z D t (sx_t D T nt v (pxL D T nt v dg) x) := (sx_tz S px_L hx).2
theorem px_inv (S : sx_S D T nt n L v dg) {t : Nat} {x : tup4} (hx : pxX D T nt v dg t x) : InvP T nt (sx_t D T nt v (pxL D T nt v dg) x) := by
  obtain ⟨i1, i2, i3⟩ := sx_inv S
  obtain ⟨_, x1, _⟩ := sx_Xok S px_L hx
  exact inv_mul (inv_pow i1 _) (inv_mul (inv_pow i2 _) (inv_mul (inv_pow i3 _) (sx_einv S px_L x1).1))
theorem px_iV (S : sx_S D T nt n L v dg) {t : Nat} (t1 : t ≤ 15) {x : tup4} (hx : pxX D T nt v dg t x) : iV D T nt t (pxV D T nt v dg t x) := by
  rw [iV_inv S.1 (by omega) (by omega), isInv_iff S.1 (sx_T S) (vOk_bRow S.1 (by omega) (by omega) _)]
  intro g hg
  show mvP (T g) (toP D (bRow D t (sv_c D t (sx_t D T nt v (pxL D T nt v dg) x)))) = toP D (bRow D t (sv_c D t (sx_t D T nt v (pxL D T nt v dg) x)))
  rw [sv_back S.1 t1 (px_z S hx)]
  exact px_inv S hx g hg
/-- coordinates tell the vector -/
theorem px_co {N s m : Nat} {h : Nat → Nat} {B V : Nat → Nat → cF} {P : (Nat → cF) → Prop} (hB : isRB N s h B P) {w f : Nat → cF} (hw : P w) (hV : ∀ i, i < m → P (V i)) (e : ∀ r, r < s → w (h r) = lc m f (fun i r => V i (h r)) r) : ∀ k, k < N → w k = lc m f V k := by
  intro k hk
  rw [hB.2.2.2.2.2.2 w hw k hk]
  rw [gs_congr (g := fun r => gs m fun i => f i * (V i (h r) * B r k)) fun r hr => by rw [e r hr]; unfold lc; rw [← gs_mulr]; exact gs_congr fun i _ => gs_z5 _ _ _, gs_swap]
  unfold lc
  refine gs_congr fun i hi => ?_
  rw [hB.2.2.2.2.2.2 (V i) (hV i hi) k hk, ← gs_mul]
theorem px_le (S : sx_S D T nt n L v dg) {t m : Nat} (t1 : t ≤ 15) {X : Nat → tup4} (hX : ∀ i, i < m → pxX D T nt v dg t (X i)) (hi : ∀ i j, i < m → j < m → X i = X j → i = j) : m ≤ bsRows D T nt t := by
  obtain ⟨h, hB⟩ := S.2.2.2.2.2.2.2 t (by omega) (by omega)
  exact ind_span (px_ind S t1 hX hi) fun i hi' => rb_in hB (px_iV S t1 (hX i hi'))
theorem px_iff (S : sx_S D T nt n L v dg) {t : Nat} (t1 : t ≤ 15) {x : tup4} : pxX D T nt v dg t x ↔ 0 ≤ x.1 ∧ x.1.toNat < (pxL D T nt v dg).length ∧ 0 ≤ x.2.1 ∧ 0 ≤ x.2.2.1 ∧ 0 ≤ x.2.2.2 ∧ (D = 2 → x.2.2.2 = 0) ∧ x.2.1.toNat * (dg 0).toNat + (x.2.2.1.toNat * (dg 1).toNat + (x.2.2.2.toNat * sx_3 D dg + sx_d (pxL D T nt v dg) x.1.toNat)) = t := by
  constructor
  · exact sx_Xok S px_L
  · intro ⟨h1, h2, h3, h4, h5, h6, h7⟩
    have := sx_Xin S px_L t1 h2 (k := x.2.2.2.toNat) (fun e => by rw [h6 e]; rfl) h7
    have e : (((x.1.toNat : Nat) : Int), ((x.2.1.toNat : Nat) : Int), ((x.2.2.1.toNat : Nat) : Int), ((x.2.2.2.toNat : Nat) : Int)) = x := by
      rw [Int.toNat_of_nonneg h1, Int.toNat_of_nonneg h3, Int.toNat_of_nonneg h4, Int.toNat_of_nonneg h5]
    rw [e] at this
    exact this
/-- the primary one τ as a series, and its degree -/
theorem px_th (S : sx_S D T nt n L v dg) {τ : Nat} (hτ : (τ : Int) < D) : 1 ≤ dg τ ∧ dg τ ≤ 6 := by
  obtain ⟨_, _, _, h1, h2, _⟩ := S.2.2.2.2.1 τ hτ
  exact ⟨h1, h2⟩
theorem pu_g1 (a d r : Nat) : (a + 1) * d + r = a * d + r + d := by
  rw [Nat.add_mul]; omega
theorem px_up (S : sx_S D T nt n L v dg) {τ t' t : Nat} (hτ : (τ : Int) < D) (ht : (t : Int) = t' + dg τ) (t1 : t ≤ 15) {x : tup4} (hx : pxX D T nt v dg t' x) (f1 : τ < 1 → x.2.2.1 ≤ 0) (f2 : τ < 2 → x.2.2.2 ≤ 0) : pxX D T nt v dg t (upT τ x) ∧ lastP (upT τ x) = τ + 1 ∧ sx_t D T nt v (pxL D T nt v dg) (upT τ x) = cMul (toP D (v τ)) (sx_t D T nt v (pxL D T nt v dg) x) := by
  have th := px_th S hτ
  obtain ⟨h1, h2, h3, h4, h5, h6, h7⟩ := (px_iff S (by omega)).mp hx
  have hD := S.1
  obtain ⟨x1, x2, x3, x4⟩ := x
  simp only at h1 h2 h3 h4 h5 h6 h7 f1 f2
  have pu := pr_up (t1 := toP D (v 0)) (t2 := toP D (v 1)) (t3 := th3 D v) (et := sx_e D T nt (pxL D T nt v dg)) x1.toNat x2.toNat x3.toNat x4.toNat
  have tt : τ = 0 ∨ τ = 1 ∨ (τ = 2 ∧ D = 3) := by omega
  rcases tt with e | e | ⟨e, e3⟩
  · subst e
    have z3 : x3 = 0 := by have := f1 (by decide); omega
    have z4 : x4 = 0 := by have := f2 (by decide); omega
    have eu : upT 0 (x1, x2, x3, x4) = (x1, x2 + 1, x3, x4) := rfl
    rw [eu]
    refine ⟨(px_iff S t1).mpr ⟨h1, h2, by show 0 ≤ x2 + 1; omega, h4, h5, h6, ?_⟩, ?_, ?_⟩
    · show (x2 + 1).toNat * (dg 0).toNat + (x3.toNat * (dg 1).toNat + (x4.toNat * sx_3 D dg + sx_d (pxL D T nt v dg) x1.toNat)) = t
      rw [show (x2 + 1).toNat = x2.toNat + 1 by omega, pu_g1, h7]
      have : (dg ((0 : Nat))).toNat = (dg 0).toNat := rfl
      omega
    · show (if x4 ≠ 0 then 3 else if x3 ≠ 0 then 2 else if x2 + 1 ≠ 0 then 1 else 0) = 1
      rw [if_neg (by omega), if_neg (by omega), if_pos (by omega)]
    · rw [show sx_t D T nt v (pxL D T nt v dg) (x1, x2, x3, x4) = prP (toP D (v 0)) (toP D (v 1)) (th3 D v) (sx_e D T nt (pxL D T nt v dg)) x1.toNat x2.toNat x3.toNat x4.toNat from rfl, pu.1]
      show prP _ _ _ _ x1.toNat (x2 + 1).toNat x3.toNat x4.toNat = _
      rw [show (x2 + 1).toNat = x2.toNat + 1 by omega]
  · subst e
    have z4 : x4 = 0 := by have := f2 (by decide); omega
    have eu : upT 1 (x1, x2, x3, x4) = (x1, x2, x3 + 1, x4) := rfl
    rw [eu]
    refine ⟨(px_iff S t1).mpr ⟨h1, h2, h3, by show 0 ≤ x3 + 1; omega, h5, h6, ?_⟩, ?_, ?_⟩
    · show x2.toNat * (dg 0).toNat + ((x3 + 1).toNat * (dg 1).toNat + (x4.toNat * sx_3 D dg + sx_d (pxL D T nt v dg) x1.toNat)) = t
      rw [show (x3 + 1).toNat = x3.toNat + 1 by omega, pu_g1]
      have : (dg ((1 : Nat))).toNat = (dg 1).toNat := rfl
      omega
    · show (if x4 ≠ 0 then 3 else if x3 + 1 ≠ 0 then 2 else if x2 ≠ 0 then 1 else 0) = 2
      rw [if_neg (by omega), if_pos (by omega)]
    · rw [show sx_t D T nt v (pxL D T nt v dg) (x1, x2, x3, x4) = prP (toP D (v 0)) (toP D (v 1)) (th3 D v) (sx_e D T nt (pxL D T nt v dg)) x1.toNat x2.toNat x3.toNat x4.toNat from rfl, pu.2.1]
      show prP _ _ _ _ x1.toNat x2.toNat (x3 + 1).toNat x4.toNat = _
      rw [show (x3 + 1).toNat = x3.toNat + 1 by omega]
  · subst e
    have eu : upT 2 (x1, x2, x3, x4) = (x1, x2, x3, x4 + 1) := rfl
    have e3' : sx_3 D dg = (dg 2).toNat := by unfold sx_3; rw [if_neg (by omega)]
    rw [eu]
    refine ⟨(px_iff S t1).mpr ⟨h1, h2, h3, h4, by show 0 ≤ x4 + 1; omega, fun e => by omega, ?_⟩, ?_, ?_⟩
    · show x2.toNat * (dg 0).toNat + (x3.toNat * (dg 1).toNat + ((x4 + 1).toNat * sx_3 D dg + sx_d (pxL D T nt v dg) x1.toNat)) = t
      rw [show (x4 + 1).toNat = x4.toNat + 1 by omega, pu_g1]
      have : (dg ((2 : Nat))).toNat = (dg 2).toNat := rfl
      omega
    · show (if x4 + 1 ≠ 0 then 3 else if x3 ≠ 0 then 2 else if x2 ≠ 0 then 1 else 0) = 3
      rw [if_pos (by omega)]
    · have et : toP D (v 2) = th3 D v := by unfold th3; rw [if_neg (by omega)]
      rw [et, show sx_t D T nt v (pxL D T nt v dg) (x1, x2, x3, x4) = prP (toP D (v 0)) (toP D (v 1)) (th3 D v) (sx_e D T nt (pxL D T nt v dg)) x1.toNat x2.toNat x3.toNat x4.toNat from rfl, pu.2.2]
      show prP _ _ _ _ x1.toNat x2.toNat x3.toNat (x4 + 1).toNat = _
      rw [show (x4 + 1).toNat = x4.toNat + 1 by omega]
theorem px_dn (S : sx_S D T nt n L v dg) {τ t : Nat} (t1 : t ≤ 15) {x : tup4} (hx : pxX D T nt v dg t x) (hl : lastP x = τ + 1) : (τ : Int) < D ∧ dg τ ≤ t ∧ ∃ x', x = upT τ x' ∧ (τ < 1 → x'.2.2.1 ≤ 0) ∧ (τ < 2 → x'.2.2.2 ≤ 0) ∧ ∀ t' : Nat, (t : Int) = t' + dg τ → pxX D T nt v dg t' x' := by
  obtain ⟨h1, h2, h3, h4, h5, h6, h7⟩ := (px_iff S t1).mp hx
  have hD := S.1
  obtain ⟨x1, x2, x3, x4⟩ := x
  simp only at h1 h2 h3 h4 h5 h6 h7
  have hl' : (if x4 ≠ 0 then 3 else if x3 ≠ 0 then 2 else if x2 ≠ 0 then 1 else 0) = τ + 1 := hl
  by_cases w4 : x4 = 0
  · rw [if_neg (by omega)] at hl'
    by_cases w3 : x3 = 0
    · rw [if_neg (by omega)] at hl'
      by_cases w2 : x2 = 0
      · rw [if_neg (by omega)] at hl'; omega
      · rw [if_pos (by omega)] at hl'
        have e : τ = 0 := by omega
        subst e
        have th := px_th S (τ := 0) (by omega)
        rw [show x2.toNat = (x2 - 1).toNat + 1 by omega, pu_g1] at h7
        have : (dg ((0 : Nat))).toNat = (dg 0).toNat := rfl
        refine ⟨by omega, by omega, (x1, x2 - 1, x3, x4), ?_, fun _ => by show x3 ≤ 0; omega, fun _ => by show x4 ≤ 0; omega, fun t' ht => (px_iff S (by omega)).mpr ⟨h1, h2, by show 0 ≤ x2 - 1; omega, h4, h5, h6, ?_⟩⟩
        · show _ = (x1, x2 - 1 + 1, x3, x4)
          rw [show x2 - 1 + 1 = x2 by omega]
        · show (x2 - 1).toNat * (dg 0).toNat + (x3.toNat * (dg 1).toNat + (x4.toNat * sx_3 D dg + sx_d (pxL D T nt v dg) x1.toNat)) = t'
          omega
    · rw [if_pos (by omega)] at hl'
      have e : τ = 1 := by omega
      subst e
      have th := px_th S (τ := 1) (by omega)
      rw [show x3.toNat = (x3 - 1).toNat + 1 by omega, pu_g1] at h7
      have : (dg ((1 : Nat))).toNat = (dg 1).toNat := rfl
      refine ⟨by omega, by omega, (x1, x2, x3 - 1, x4), ?_, fun h => by omega, fun _ => by show x4 ≤ 0; omega, fun t' ht => (px_iff S (by omega)).mpr ⟨h1, h2, h3, by show 0 ≤ x3 - 1; omega, h5, h6, ?_⟩⟩
      · show _ = (x1, x2, x3 - 1 + 1, x4)
        rw [show x3 - 1 + 1 = x3 by omega]
      · show x2.toNat * (dg 0).toNat + ((x3 - 1).toNat * (dg 1).toNat + (x4.toNat * sx_3 D dg + sx_d (pxL D T nt v dg) x1.toNat)) = t'
        omega
  · rw [if_pos (by omega)] at hl'
    have e : τ = 2 := by omega
    subst e
    have e3 : D = 3 := by
      rcases hD with e | e
      · exact absurd (h6 e) w4
      · exact e
    have th := px_th S (τ := 2) (by omega)
    have e3' : sx_3 D dg = (dg 2).toNat := by unfold sx_3; rw [if_neg (by omega)]
    rw [show x4.toNat = (x4 - 1).toNat + 1 by omega, pu_g1, e3'] at h7
    have : (dg ((2 : Nat))).toNat = (dg 2).toNat := rfl
    refine ⟨by omega, by omega, (x1, x2, x3, x4 - 1), ?_, fun h => by omega, fun h => by omega, fun t' ht => (px_iff S (by omega)).mpr ⟨h1, h2, h3, h4, by show 0 ≤ x4 - 1; omega, fun e => by omega, ?_⟩⟩
    · show _ = (x1, x2, x3, x4 - 1 + 1)
      rw [show x4 - 1 + 1 = x4 by omega]
    · show x2.toNat * (dg 0).toNat + (x3.toNat * (dg 1).toNat + ((x4 - 1).toNat * sx_3 D dg + sx_d (pxL D T nt v dg) x1.toNat)) = t'
      rw [e3']
      omega
end PX
