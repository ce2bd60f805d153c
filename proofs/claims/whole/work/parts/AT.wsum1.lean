/-! THE CLASS: the reader of polynomials, its rows -/
def rk (_ : Int) (f : Int → Int) : Prop := okR f
def cut (D : Int) (f : Int → Int) : Int → Int := fun k => if 0 ≤ k ∧ k < mFrom D 16 then f k else 0
theorem cut_ok {D : Int} (hD : D = 2 ∨ D = 3) {f : Int → Int} (h : rk D f) : vOk D (cut D f) ∧ wRow D f (cut D f) := by
  obtain ⟨s1, s2, s3⟩ := m16_bd hD
  refine ⟨⟨fun k => ?_, fun k hk => if_neg (by omega), ?_⟩, fun k k0 k1 => (if_pos ⟨k0, k1⟩).symm⟩
  · unfold cut
    split
    · exact h k
    · omega
  · refine mDeg_le hD (by decide) fun k k0 k1 hk => ?_
    rw [Int.zero_add]
    refine if_neg fun w => ?_
    have := (mDg_lt hD (k := k) (t := 15) k0 k1 (by decide)).mp (by rw [show (15 : Int) + 1 = 16 by decide]; exact w.2)
    omega
theorem wRow_rk {D : Int} {f v f0 : Int → Int} (h : wRow D f v) (o : vOk D v) (ho : ∀ k, ¬ (0 ≤ k ∧ k < mFrom D 16) → f k = f0 k) (o0 : okR f0) : rk D f := fun k => by
  by_cases q : 0 ≤ k ∧ k < mFrom D 16
  · rw [h k q.1 q.2]; exact o.1 k
  · rw [ho k q]; exact o0 k
theorem okR_fillF {f : Int → Int} (o : okR f) (lo n : Int) {v : Int} (v0 : 0 ≤ v) (v1 : v < 2521) : okR (fillF f lo n v) := fun k => by
  unfold fillF
  split
  · omega
  · exact o k
theorem okR_put {f : Int → Int} (o : okR f) (i : Int) {v : Int} (v0 : 0 ≤ v) (v1 : v < 2521) : okR (fun j => if j = i then v else f j) := fun k => by
  show 0 ≤ (if k = i then v else f k) ∧ (if k = i then v else f k) < 2521
  split
  · omega
  · exact o k
theorem wRow_cut {D : Int} (hD : D = 2 ∨ D = 3) {f v : Int → Int} (h : wRow D f v) (o : vOk D v) : cut D f = v := by
  funext k
  unfold cut
  by_cases q : 0 ≤ k ∧ k < mFrom D 16
  · rw [if_pos q]; exact h k q.1 q.2
  · rw [if_neg q]; exact (vOk_16 hD o q).symm
theorem mIx_comm (D i j : Int) : mIx D i j = mIx D j i := by
  unfold mIx
  rw [Int.add_comm (mEa D i), Int.add_comm (mEb D i), Int.add_comm (mEc D i)]
theorem vMul_comm (D : Int) (v w : Int → Int) : vMul D v w = vMul D w v := by
  funext k
  unfold vMul pMul pTo
  rw [sg_swap]
  congr 2
  refine sg_congr fun i _ => sg_congr fun j _ => ?_
  rw [mIx_comm, Int.mul_comm]
/-- the reader of polynomials: the rows q, part p, other o, result r -/
def smZ (D : Int) (sh q : Nat) (z : cm_Z) : Prop := wz z ∧ z.1 51 1 = sh ∧ z.1 51 2 = q ∧ 248 ≤ q ∧ isRws z q ∧ z.2.1 q = 21 ∧ ∀ i : Nat, i < 21 → mFrom D 16 ≤ z.2.1 (q + 1 + i) ∧ z.2.1 (q + 1 + i) ≤ 1000
def smP (p o r : Nat) (J : cm_I) : Prop := J 51 3 = (p : Int) ∧ J 51 4 = (o : Int) ∧ J 51 5 = (r : Int) ∧ 18 ≤ p ∧ p < 21 ∧ 18 ≤ o ∧ o < 21 ∧ 18 ≤ r ∧ r < 21 ∧ p ≠ o ∧ p ≠ r ∧ o ≠ r
def smT (D : Int) (sh q p o r : Nat) (J : cm_I) : Prop := shOk D sh J ∧ smP p o r J ∧ (J 51 6 = 0 ∨ J 51 6 = 1) ∧ ∀ i : Nat, i < 21 → rk D (J (q + 1 + i))
/-- cells that may change: the readers, two pieces, rows of S -/
def smF (sh q : Nat) (S : Nat → Prop) (I I1 : cm_I) : Prop := ∀ a, a ≠ 49 → a ≠ 51 → a ≠ sh + 3 → a ≠ sh + 5 → (∀ i : Nat, i < 21 → S i → a ≠ q + 1 + i) → I1 a = I a
theorem smF_refl (sh q : Nat) (S : Nat → Prop) (I : cm_I) : smF sh q S I I := fun _ _ _ _ _ _ => rfl
theorem smF_trans {sh q : Nat} {S : Nat → Prop} {I I1 I2 : cm_I} (h : smF sh q S I I1) (h' : smF sh q S I1 I2) : smF sh q S I I2 := fun a a1 a2 a3 a4 a5 => (h' a a1 a2 a3 a4 a5).trans (h a a1 a2 a3 a4 a5)
theorem smF_mono {sh q : Nat} {S S' : Nat → Prop} {I I1 : cm_I} (h : smF sh q S I I1) (s : ∀ i, i < 21 → S i → S' i) : smF sh q S' I I1 := fun a a1 a2 a3 a4 a5 => h a a1 a2 a3 a4 fun i hi hs => a5 i hi (s i hi hs)
theorem smF_49 {sh q : Nat} {S : Nat → Prop} {I I1 : cm_I} (h : fr [49] I I1) : smF sh q S I I1 := fun a a1 _ _ _ _ => h a (by simpa using a1)
theorem smF_51 {sh q : Nat} {S : Nat → Prop} {I I1 : cm_I} (h : fr [51] I I1) : smF sh q S I I1 := fun a _ a2 _ _ _ => h a (by simpa using a2)
theorem smF_row {sh q : Nat} {S : Nat → Prop} {I I1 : cm_I} {i : Nat} (hi : i < 21) (hs : S i) (h : fr [q + 1 + i] I I1) : smF sh q S I I1 := fun a _ _ _ _ a5 => h a (by simpa using a5 i hi hs)
theorem smF_mul {sh q : Nat} {S : Nat → Prop} {I I1 : cm_I} {i : Nat} (hi : i < 21) (hs : S i) (h : fr [q + 1 + i, sh + 3, sh + 5] I I1) : smF sh q S I I1 := fun a _ _ a3 a4 a5 => h a (by have := a5 i hi hs; simp; omega)
section WSM
variable {d : Nat} {z : cm_Z} {I : cm_I} {D : Int} {sh q p o r : Nat}
theorem smZ_zf {z z1 : cm_Z} (h : smZ D sh q z) (hs : isSh sh) (hz : zf [sh + 3, sh + 5] z z1) : smZ D sh q z1 := by
  obtain ⟨a1, a2, a3, a4, a5, a6, a7⟩ := h
  have hs' : sh = 11 ∨ sh = 20 := hs
  obtain ⟨c3, c5⟩ := sh_pc hs
  have n51 : z1.1 51 = z.1 51 := hz.1 51 (by simp; omega)
  have nq : z1.1 q = z.1 q := hz.1 q (by simp; omega)
  refine ⟨wz_zf a1 hz fun a q => ?_, by rw [n51]; exact a2, by rw [n51]; exact a3, a4, ?_, by rw [hz.2]; exact a6, by rw [hz.2]; exact a7⟩
  · simp only [List.mem_cons, List.not_mem_nil, or_false] at q
    rcases q with e | e <;> rw [e]
    · exact c3
    · exact c5
  · unfold isRws
    rw [nq, hz.2]
    exact a5
theorem sh_lt (hS : shOk D sh I) : sh = 11 ∨ sh = 20 := shOk_sh hS
/-- a row is told anew -/
theorem smT_row (hZ : 248 ≤ q) (h : smT D sh q p o r I) {I1 : cm_I} {i : Nat} (hf : fr [q + 1 + i] I I1) (hk : i < 21 → rk D (I1 (q + 1 + i))) : smT D sh q p o r I1 := by
  obtain ⟨a1, a2, a3, a4⟩ := h
  have hs := sh_lt a1
  have n51 : I1 51 = I 51 := hf 51 (by simp; omega)
  refine ⟨shOk_fr a1 (hf _ (by simp; omega)) (hf _ (by simp; omega)) (hf _ (by simp; omega)) (hf _ (by simp; omega)) (hf _ (by simp; omega)), by unfold smP; rw [n51]; exact a2, by rw [n51]; exact a3, fun j hj => ?_⟩
  by_cases e : j = i
  · rw [e]; exact hk (by omega)
  · rw [hf (q + 1 + j) (by simp; omega)]; exact a4 j hj
theorem smT_49 (hZ : 248 ≤ q) (h : smT D sh q p o r I) {I1 : cm_I} (hf : fr [49] I I1) : smT D sh q p o r I1 := by
  obtain ⟨a1, a2, a3, a4⟩ := h
  have hs := sh_lt a1
  have n51 : I1 51 = I 51 := hf 51 (by simp)
  exact ⟨shOk_fr a1 (hf _ (by simp; omega)) (hf _ (by simp; omega)) (hf _ (by simp; omega)) (hf _ (by simp; omega)) (hf _ (by simp; omega)), by unfold smP; rw [n51]; exact a2, by rw [n51]; exact a3, fun j hj => by rw [hf (q + 1 + j) (by simp; omega)]; exact a4 j hj⟩
theorem t_putPart (hZ : smZ D sh q z) (hT : smT D sh q p o r I) {x c : Int} (x0 : 0 ≤ x) (x1 : x < mFrom D 16) (c0 : 0 ≤ c) (c1 : c < 2521) : mU (d + 2) m_Sum_putPart [vR 10 51, vI x, vI c] z I fun I1 => fr [q + 1 + p] I I1 ∧ okR (I1 (q + 1 + p)) ∧ ∀ k, 0 ≤ k → k < mFrom D 16 → I1 (q + 1 + p) k = if k = x then c else 0 := by
  obtain ⟨hz, z1, z2, z3, z4, z5, z6⟩ := hZ
  obtain ⟨a1, ⟨p1, p2, p3, p4, p5, p6⟩, a3, a4⟩ := hT
  have zl := z6 p p5
  have hD := shOk_D a1
  obtain ⟨s1, s2, s3⟩ := m16_bd hD
  refine wr_Sum_putPart hz z2 (by omega) z4 ?_
  rw [p1, Int.toNat_natCast, z5]
  refine ⟨⟨by omega, by omega⟩, mU_mono (t_fill (d := d) hz (by omega) rfl (by omega) (by omega)) fun I2 e2 => ?_⟩
  obtain ⟨f2, g2⟩ := fr_eq_iw e2
  rw [f2 51 (by simp; omega), p1, Int.toNat_natCast]
  refine ⟨⟨by omega, by omega⟩, ⟨by omega, by omega⟩, fun I5 e5 => qU_mk ?_⟩
  obtain ⟨f5, g5⟩ := fr_eq_iu e5
  refine ⟨fr_trans f2 f5, by rw [g5, g2]; exact okR_put (okR_fillF (a4 p p5) _ _ (by decide) (by decide)) _ c0 c1, fun k k0 k1 => ?_⟩
  rw [g5]
  show (if k = x then c else _) = _
  by_cases w : k = x
  · rw [if_pos w, if_pos w]
  · rw [if_neg w, if_neg w, g2]
    unfold fillF
    rw [if_pos (by omega)]
theorem t_sumAdd (hz : wz z) (hS : shOk D sh I) (y1 : z.1 51 1 = sh) {a b : Nat} (a0 : 0 < a) (b0 : 0 < b) (la : mFrom D 16 ≤ z.2.1 a) (lb : mFrom D 16 ≤ z.2.1 b) (nb : b ∉ [a, sh, sh + 1, sh + 2, sh + 7, sh + 8]) {c : Int} (c0 : 0 ≤ c) (c1 : c < 2521) (ka : rk D (I a)) (kb : rk D (I b)) : mU (d + 1) m_Sum_add [vR 10 51, vR 20 a, vI c, vR 20 b] z I fun I1 => fr [b] I I1 ∧ okR (I1 b) ∧ ∀ k, 0 ≤ k → k < mFrom D 16 → I1 b k = (I b k + c * I a k) % 2521 := by
  have hD := shOk_D hS
  obtain ⟨s1, s2, s3⟩ := m16_bd hD
  simp only [List.mem_cons, List.not_mem_nil, or_false, not_or] at nb
  have L : ∀ (n : Nat) (i : Int) (J : cm_I), 0 ≤ i → i + n = mFrom D 16 → fr [b] I J → okR (J b) → (∀ k, 0 ≤ k → k < i → J b k = (I b k + c * I a k) % 2521) → (∀ k, i ≤ k → J b k = I b k) → cw d cd_Sum_add (qU z fun I1 => fr [b] I I1 ∧ okR (I1 b) ∧ ∀ k, 0 ≤ k → k < mFrom D 16 → I1 b k = (I b k + c * I a k) % 2521) 3 [some (vR 10 51), some (vR 20 a), some (vI c), some (vR 20 b), some (vI i)] [] (J, z) := by
    intro n
    induction n with
    | zero =>
      intro i J i0 ei hf oJ lo hi
      refine wr_Sum_add_3 hz y1 (shOk_sh hS) b0 a0 ?_
      rw [hf sh (by simp; omega), hS.2.2.1]
      exact ⟨fun _ => qU_mk ⟨hf, oJ, fun k k0 k1 => lo k k0 (by omega)⟩, fun w => by omega⟩
    | succ n ih =>
      intro i J i0 ei hf oJ lo hi
      have oa := ka i
      have ob := kb i
      have pr := mul_bd (x := c) (y := I a i) (X := 2520) (Y := 2520) c0 (by omega) (by omega) (by omega)
      refine wr_Sum_add_3 hz y1 (shOk_sh hS) b0 a0 ?_
      rw [hf sh (by simp; omega), hS.2.2.1, hf a (by simp; omega), hi i (Int.le_refl i), tmod_pos (by omega)]
      refine ⟨fun w => by omega, fun _ => ⟨⟨by omega, by omega⟩, ⟨by omega, by omega⟩, ⟨by omega, by omega⟩, ⟨by omega, by omega⟩, fun J5 e5 => ⟨⟨by omega, by omega⟩, ?_⟩⟩⟩
      obtain ⟨f5, g5⟩ := fr_eq_iu e5
      refine ih (i + 1) J5 (by omega) (by omega) (fr_trans hf f5) (by rw [g5]; exact okR_put oJ _ (by omega) (by omega)) (fun k k0 k1 => ?_) fun k k0 => ?_
      · rw [g5]
        show (if k = i then _ else _) = _
        by_cases w : k = i
        · rw [if_pos w, w]
        · rw [if_neg w]; exact lo k k0 (by omega)
      · rw [g5]
        show (if k = i then _ else _) = _
        rw [if_neg (by omega)]; exact hi k (by omega)
  refine wr_Sum_add hz ?_
  exact L (mFrom D 16).toNat 0 I (by omega) (by omega) (fr_refl _ _) kb (fun k k0 k1 => by omega) fun _ _ => rfl
end WSM
