/-! PrimarySearch.putSpread -/
section WSP
variable {d : Nat} {z : cm_Z} {I : cm_I} {D : Int} {sh : Nat}
theorem ax_ok2 (hD : D = 2 ∨ D = 3) {i j p q : Int} (i0 : 0 ≤ i) (j0 : 0 ≤ j) (p0 : 0 ≤ p) (q0 : 0 ≤ q) (p15 : p ≤ 15) (q15 : q ≤ 15) (pq : p + q ≤ 17) (i1 : i < fF D (p + 1)) (j1 : j < fF D (q + 1)) : mIx D (mFrom D p + i) (mFrom D q + j) = mFrom D (p + q) + ax D i j ∧ 0 ≤ ax D i j ∧ ax D i j < fF D (p + q + 1) := by
  obtain ⟨bi, p16⟩ := blk_lt hD i0 i1 p0 (by omega)
  obtain ⟨bj, q16⟩ := blk_lt hD j0 j1 q0 (by omega)
  obtain ⟨a1, a2, a3, a4, a5, a6, a7, a8⟩ := blk_ok hD i0 p16
  obtain ⟨b1, b2, b3, b4, b5, b6, b7, b8⟩ := blk_ok hD j0 q16
  obtain ⟨x1, x2, x3⟩ := mE_loc hD i0 p0 (by omega) i1
  obtain ⟨y1, y2, y3⟩ := mE_loc hD j0 q0 (by omega) j1
  have fb := fF_bd hD (s := blk D i + blk D j) (by omega) (by omega)
  have sc := fF_succ hD (s := blk D i + blk D j) (by omega) (by omega)
  have w : fF D (blk D i + blk D j) + (lst D i + lst D j) < fF D (blk D i + blk D j + 1) := by
    rw [sc]
    rcases hD with e | e
    · have := a5 e; have := b5 e; rw [if_pos e]; omega
    · rw [if_neg (by omega)]; omega
  have m := fF_mono hD (s := blk D i + blk D j + 1) (t := p + q + 1) (by omega) (by omega) (by omega)
  refine ⟨?_, by unfold ax; omega, by unfold ax; omega⟩
  unfold mIx
  rw [x1, x2, x3, y1, y2, y3, mAt_fF hD (fun e => by have := a5 e; have := b5 e; omega)]
  rw [show p - blk D i + (q - blk D j) + (blk D i - lst D i + (blk D j - lst D j)) + (lst D i + lst D j) = p + q by omega, show blk D i - lst D i + (blk D j - lst D j) + (lst D i + lst D j) = blk D i + blk D j by omega]
  rfl
theorem ax_low (hD : D = 2 ∨ D = 3) {i j : Int} (i0 : 0 ≤ i) (j0 : 0 ≤ j) (i1 : i < fF D 16) (j1 : j < fF D 16) (b : blk D i + blk D j ≤ 17) : fF D (blk D i + blk D j) ≤ ax D i j ∧ ax D i j < fF D (blk D i + blk D j + 1) := by
  obtain ⟨a1, a2, a3, a4, a5, a6, a7, a8⟩ := blk_ok hD i0 i1
  obtain ⟨b1, b2, b3, b4, b5, b6, b7, b8⟩ := blk_ok hD j0 j1
  have sc := fF_succ hD (s := blk D i + blk D j) (by omega) (by omega)
  have w : fF D (blk D i + blk D j) + (lst D i + lst D j) < fF D (blk D i + blk D j + 1) := by
    rw [sc]
    rcases hD with e | e
    · have := a5 e; have := b5 e; rw [if_pos e]; omega
    · rw [if_neg (by omega)]; omega
  unfold ax
  omega
theorem ax_inj2 (hD : D = 2 ∨ D = 3) {i i' j : Int} (i0 : 0 ≤ i) (i0' : 0 ≤ i') (j0 : 0 ≤ j) (i1 : i < fF D 16) (i1' : i' < fF D 16) (j1 : j < fF D 16) (b : blk D i + blk D j ≤ 17) (b' : blk D i' + blk D j ≤ 17) (e : ax D i j = ax D i' j) : i = i' := by
  obtain ⟨a1, a2, a3, a4, a5, a6, a7, a8⟩ := blk_ok hD i0 i1
  obtain ⟨b1, b2, b3, b4, b5, b6, b7, b8⟩ := blk_ok hD j0 j1
  obtain ⟨c1, c2, c3, c4, c5, c6, c7, c8⟩ := blk_ok hD i0' i1'
  have l := ax_low hD i0 j0 i1 j1 b
  have l' := ax_low hD i0' j0 i1' j1 b'
  have eb : blk D i = blk D i' := by
    rcases Int.lt_trichotomy (blk D i) (blk D i') with w | w | w
    · have := fF_mono hD (s := blk D i + blk D j + 1) (t := blk D i' + blk D j) (by omega) (by omega) (by omega)
      omega
    · exact w
    · have := fF_mono hD (s := blk D i' + blk D j + 1) (t := blk D i + blk D j) (by omega) (by omega) (by omega)
      omega
  unfold ax at e
  rw [eb] at e a6
  omega
/-- the first k numbers of a part of one degree, times the monomial at m -/
def spI (D : Int) (F : Int → Int) (m : Int) (k : Nat) (x : Int) : Int := sg k fun i => if ax D i m = x then F i else 0
theorem t_putSpread (hz : wz z) (hS : shOk D sh I) (y : z.1 185 2 = sh) {a q : Nat} (a0 : 0 < a) (q0 : 0 < q) (na : a ≠ 188) (nq : q ≠ 188) (ya : z.1 a 0 = q) {p t at_ m : Int} (e1 : I a 1 = at_) (e2 : I a 2 = p) (p0 : 0 ≤ p) (p15 : p ≤ 15) (t0 : 0 ≤ t) (t15 : t ≤ 15) (pt : p + t ≤ 16 ∨ (D = 2 ∧ p + t ≤ 17)) (m0 : 0 ≤ m) (m1 : m < fF D (t + 1)) (at0 : 0 ≤ at_) (at1 : at_ ≤ 1000000) (al : at_ + fF D (p + 1) ≤ z.2.1 q) : mU (d + 2) m_Search_putSpread [vR 6 185, vR 5 a, vI m] z I fun I1 => fr [188] I I1 ∧ ∀ x, 0 ≤ x → x < 153 → I1 188 x = spI D (fun i => I q (at_ + i)) m (fF D (p + 1)).toNat x := by
  have hD := shOk_D hS
  have hsh := shOk_sh hS
  have hs : sh = 11 ∨ sh = 20 := hsh
  obtain ⟨bm, m16⟩ := blk_lt hD m0 m1 t0 t15
  obtain ⟨b1, b2, b3, b4, b5, b6, b7, b8⟩ := blk_ok hD m0 m16
  have l1 : z.2.1 (sh + 1) = 19 := wz_shL1 hz hsh
  have l7 := (wz_shL7 hz hS).1
  have l188 : z.2.1 188 = 153 := wz_L hz 188 153 rfl (by decide)
  have F := hS.2.2.2.1
  have f16 := fF_bd hD (s := 16) (by decide) (by decide)
  have fp := fF_bd hD (s := p + 1) (by omega) (by omega)
  have fmp := fF_mono hD (s := p + 1) (t := 16) (by omega) (by omega) (by omega)
  have f153 : fF D (p + t + 1) ≤ 153 := by
    rw [fF_many]
    exact (from_bds16 hD (t := p + t) (by omega) pt).2.2.2.2
  have em := (shOk_blk hS m0 m16).1
  have Lp : ∀ (u k : Nat) (J : cm_I) (z7 : Option cm_V), (k : Int) + u = fF D (p + 1) → fr [188] I J → (∀ x, 0 ≤ x → x < 153 → J 188 x = spI D (fun i => I q (at_ + i)) m k x) → cw (d + 1) cd_Search_putSpread (qU z fun I1 => fr [188] I I1 ∧ ∀ x, 0 ≤ x → x < 153 → I1 188 x = spI D (fun i => I q (at_ + i)) m (fF D (p + 1)).toNat x) 38 [some (vR 6 185), some (vR 5 a), some (vI m), some (vR 20 (sh + 1)), some (vI (blk D m)), some (vI (lst D m)), some (vI (k : Int)), z7] [] (J, z) := by
    intro u
    induction u with
    | zero =>
      intro k J z7 ek hf hv
      have ja : J a = I a := hf a (by simpa using na)
      have j1 : J (sh + 1) = I (sh + 1) := hf _ (by simp; omega)
      refine wr_Search_putSpread_38 hz a0 (by omega) y hsh ya q0 ?_
      rw [ja, j1, e2, F (p + 1) (by omega) (by omega), l1]
      refine ⟨by unfold cm_i; omega, ⟨by omega, by omega⟩, fun _ => qU_mk ⟨hf, fun x x0 x1 => ?_⟩, fun w => by omega⟩
      rw [hv x x0 x1, show (fF D (p + 1)).toNat = k by omega]
    | succ u ih =>
      intro k J z7 ek hf hv
      have ja : J a = I a := hf a (by simpa using na)
      have jq : J q = I q := hf q (by simpa using nq)
      have j1 : J (sh + 1) = I (sh + 1) := hf _ (by simp; omega)
      have j7 : J (sh + 7) = I (sh + 7) := hf _ (by simp; omega)
      have k1 : (k : Int) < fF D (p + 1) := by omega
      obtain ⟨bk, k16⟩ := blk_lt hD (p := (k : Int)) (by omega) k1 p0 p15
      obtain ⟨c1, c2, c3, c4, c5, c6, c7, c8⟩ := blk_ok hD (p := (k : Int)) (by omega) k16
      have ek7 := (shOk_blk hS (p := (k : Int)) (by omega) k16).1
      have A := ax_ok2 hD (i := (k : Int)) (j := m) (p := p) (q := t) (by omega) m0 p0 t0 p15 t15 (by omega) k1 m1
      have fb := fF_bd hD (s := blk D m + blk D k) (by omega) (by omega)
      have fb2 := fF_bd hD (s := blk D k) (by omega) (by omega)
      have pos : fF D (blk D m + blk D k) + lst D m + k - fF D (blk D k) = ax D k m := by
        unfold ax
        rw [show blk D m + blk D k = blk D k + blk D m by omega]
        omega
      refine wr_Search_putSpread_38 hz a0 (by omega) y hsh ya q0 ?_
      rw [ja, j1, j7, jq, e1, e2, F (p + 1) (by omega) (by omega), l1, ek7, F (blk D m + blk D k) (by omega) (by omega), F (blk D k) (by omega) (by omega), l7]
      refine ⟨by unfold cm_i; omega, ⟨by omega, by omega⟩, fun w => by omega, fun _ => ⟨⟨by omega, by omega⟩, by unfold cm_i; omega, ⟨by omega, by omega⟩, by unfold cm_i; omega, by unfold cm_i; omega, ⟨by omega, by omega⟩, by unfold cm_i; omega, by unfold cm_i; omega, ⟨by omega, by omega⟩, ⟨by omega, by omega⟩, fun J1 h1 => ⟨by unfold cm_i; omega, ?_⟩⟩⟩
      rw [pos] at h1
      obtain ⟨f1, g1⟩ := fr_eq_iu h1
      have := ih (k + 1) J1 (some (vI (blk D k))) (by omega) (fr_trans hf f1) fun x x0 x1 => ?_
      · exact this
      · rw [g1]
        show (if x = ax D k m then I q (at_ + k) else J 188 x) = sg k (fun i => if ax D i m = x then I q (at_ + i) else 0) + (if ax D k m = x then I q (at_ + k) else 0)
        by_cases w : x = ax D k m
        · rw [if_pos w, if_pos w.symm]
          have z0 : sg k (fun i => if ax D i m = x then I q (at_ + i) else 0) = 0 := sg_zero fun i hi => if_neg fun e => by
            obtain ⟨bi, i16⟩ := blk_lt hD (p := (i : Int)) (by omega) (by omega : (i : Int) < fF D (p + 1)) p0 p15
            have := ax_inj2 hD (i := (i : Int)) (i' := (k : Int)) (j := m) (by omega) (by omega) m0 i16 k16 m16 (by omega) (by omega) (by omega)
            omega
          omega
        · rw [if_neg w, if_neg (fun e => w e.symm), hv x x0 x1]
          rw [Int.add_zero]
          rfl
  refine wr_Search_putSpread hz y hsh ?_
  rw [em, F (blk D m) (by omega) (by omega), l7]
  refine ⟨⟨by omega, by omega⟩, ⟨by omega, by omega⟩, by unfold cm_i; have := fF_bd hD (s := blk D m) (by omega) (by omega); omega, mU_mono (t_fill (d := d) hz (by decide) l188 (by decide) (by decide)) fun I4 h4 => ?_⟩
  obtain ⟨f4, g4⟩ := fr_eq_iw h4
  rw [show m - fF D (blk D m) = lst D m by omega]
  have := Lp (fF D (p + 1)).toNat 0 I4 none (by omega) f4 fun x x0 x1 => ?_
  · exact this
  · rw [g4]
    exact if_pos ⟨x0, by omega⟩
end WSP
