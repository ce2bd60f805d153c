/-! THE CLASS: references that change; Shape.multiply -/
def zf (l : List Nat) (z z1 : cm_Z) : Prop := (∀ a, a ∉ l → z1.1 a = z.1 a) ∧ z1.2 = z.2
theorem zf_refl (l : List Nat) (z : cm_Z) : zf l z z := ⟨fun _ _ => rfl, rfl⟩
theorem zf_trans {l : List Nat} {z z1 z2 : cm_Z} (h : zf l z z1) (h' : zf l z1 z2) : zf l z z2 := ⟨fun a q => (h'.1 a q).trans (h.1 a q), h'.2.trans h.2⟩
theorem zf_mono {l l' : List Nat} {z z1 : cm_Z} (h : zf l z z1) (s : ∀ x, x ∈ l → x ∈ l') : zf l' z z1 := ⟨fun a q => h.1 a fun m => q (s a m), h.2⟩
theorem zf_zr {z z1 : cm_Z} {a : Nat} {i : Int} {v : Nat} (e : z1 = zr z a i v) : zf [a] z z1 ∧ z1.1 a i = v := by
  subst e
  refine ⟨⟨fun b q => ?_, rfl⟩, ?_⟩
  · show (if b = a then _ else z.1 b) = _
    rw [if_neg (by simpa using q)]
  · show (if a = a then (fun j => if j = i then v else z.1 a j) else z.1 a) i = v
    rw [if_pos rfl]
    exact if_pos rfl
def pcL : List Nat := [14, 16, 23, 25, 61, 71, 192, 194, 196, 205, 207]
theorem pcL_ok : ∀ a, a ∈ pcL → a ≠ 3 ∧ a ≠ 68 ∧ a ≠ 189 ∧ ∀ j, j < 100 → wA (a * 100 + j) = 0 := by decide
theorem wz_zf {l : List Nat} {z z1 : cm_Z} (hz : wz z) (h : zf l z z1) (hl : ∀ a, a ∈ l → a ∈ pcL) : wz z1 := by
  obtain ⟨w1, w2, w3, w4, w5, w6⟩ := hz
  obtain ⟨h1, h2⟩ := h
  have n3 : (3 : Nat) ∉ l := fun q => (pcL_ok _ (hl _ q)).1 rfl
  have n68 : (68 : Nat) ∉ l := fun q => (pcL_ok _ (hl _ q)).2.1 rfl
  have n189 : (189 : Nat) ∉ l := fun q => (pcL_ok _ (hl _ q)).2.2.1 rfl
  refine ⟨fun a j hj hw => ?_, by rw [h2]; exact w2, by rw [h1 3 n3, h2]; exact w3, by rw [h1 68 n68]; exact w4, by rw [h1 189 n189]; exact w5, by rw [h2]; exact w6⟩
  by_cases q : a ∈ l
  · exact absurd ((pcL_ok _ (hl _ q)).2.2.2 j hj) hw
  · rw [h1 a q]; exact w1 a j hj hw
theorem t_put {d : Nat} {z : cm_Z} {I : cm_I} (hz : wz z) {a q : Nat} (a0 : 0 < a) (x t : Int) : zcU (d + 1) m_Piece_put [vR 5 a, vR 20 q, vI x, vI t] z I fun I1 z1 => zf [a] z z1 ∧ z1.1 a 0 = q ∧ fr [a] I I1 ∧ I1 a 1 = x ∧ I1 a 2 = t := by
  refine wr_Piece_put hz a0 fun z1 e1 I2 e2 I3 e3 => kU_mk ?_
  obtain ⟨f2, g2⟩ := fr_eq_iu e2
  obtain ⟨f3, g3⟩ := fr_eq_iu e3
  refine ⟨(zf_zr e1).1, (zf_zr e1).2, fr_trans f2 f3, ?_, ?_⟩
  · rw [g3, g2]
    show (if (1 : Int) = 2 then _ else if (1 : Int) = 1 then x else _) = x
    rw [if_neg (by decide), if_pos rfl]
  · rw [g3]
    show (if (2 : Int) = 2 then t else _) = t
    rw [if_pos rfl]
theorem shOk_fr {D : Int} {sh : Nat} {I I1 : cm_I} (h : shOk D sh I) (e0 : I1 sh = I sh) (e1 : I1 (sh + 1) = I (sh + 1)) (e2 : I1 (sh + 2) = I (sh + 2)) (e7 : I1 (sh + 7) = I (sh + 7)) (e8 : I1 (sh + 8) = I (sh + 8)) : shOk D sh I1 := by
  unfold shOk
  rw [e0, e1, e2, e7, e8]
  exact h
theorem apT_congr {D : Int} {F G F' G' : Int → Int} {x : Int} {ng nf : Nat} (k : Int) (hF : ∀ i : Nat, i < nf → F i = F' i) (hG : ∀ j : Nat, j < ng → G j = G' j) : apT D F G x ng nf 0 k = apT D F' G' x ng nf 0 k := by
  unfold apT
  congr 1
  refine sg_congr fun i hi => sg_congr fun j hj => ?_
  unfold apE
  rw [hF i hi, hG j hj]
def eM (D : Int) (v w : Int → Int) (k : Int) (i j : Nat) : Int := if mIx D i j = k then v (0 + i) * w (0 + j) else 0
def mW (D : Int) (v w : Int → Int) (Q p q k : Int) : Int := (sg (mFrom D p).toNat fun i => sg (mFrom D (Q + 1)).toNat fun j => eM D v w k i j) + sg (mMany D p).toNat fun i => sg (mFrom D q).toNat fun j => eM D v w k ((mFrom D p).toNat + i) j
theorem sg_z0 {n : Nat} {f : Nat → Nat → Int} : (sg n fun i => sg (Int.toNat 0) (f i)) = 0 := sg_zero fun _ _ => rfl
section WMW
variable {D : Int} {v w : Int → Int} {P Q p q k : Int}
theorem mFrom_0 (hD : D = 2 ∨ D = 3) : mFrom D 0 = 0 := by rcases hD with e | e <;> rw [e] <;> decide
theorem mW_q (hD : D = 2 ∨ D = 3) (p0 : 0 ≤ p) (q0 : 0 ≤ q) (pq : p + q ≤ 15) : mW D v w Q p (q + 1) k = mW D v w Q p q k + apT D (fun i => v (mFrom D p + i)) (fun j => w (mFrom D q + j)) (mFrom D (p + q)) (fF D (q + 1)).toNat (fF D (p + 1)).toNat 0 k := by
  have fp := from_bds hD (t := p) p0 (by omega)
  have fq := from_bds hD (t := q) q0 (by omega)
  have e : (sg (mMany D p).toNat fun i => sg (mFrom D (q + 1)).toNat fun j => eM D v w k ((mFrom D p).toNat + i) j) = (sg (mMany D p).toNat fun i => sg (mFrom D q).toNat fun j => eM D v w k ((mFrom D p).toNat + i) j) + sg (fF D (p + 1)).toNat fun i => sg (fF D (q + 1)).toNat fun j => apE D (fun i => v (mFrom D p + i)) (fun j => w (mFrom D q + j)) (mFrom D (p + q)) k i j := by
    rw [fF_many, fF_many, ← sg_add]
    refine sg_congr fun i hi => ?_
    rw [show (mFrom D (q + 1)).toNat = (mFrom D q).toNat + (mMany D q).toNat by omega, sg_app]
    congr 1
    refine sg_congr fun j hj => ?_
    have := (ax_ok hD (i := (i : Int)) (j := (j : Int)) (p := p) (q := q) (by omega) (by omega) p0 q0 pq (by rw [fF_many]; omega) (by rw [fF_many]; omega)).1
    unfold eM apE
    rw [show (((mFrom D p).toNat + i : Nat) : Int) = mFrom D p + i by omega, show (((mFrom D q).toNat + j : Nat) : Int) = mFrom D q + j by omega, this, Int.zero_add, Int.zero_add]
  unfold mW
  rw [e]
  unfold apT
  show _ = _ + (_ + 0)
  omega
theorem mW_row (hD : D = 2 ∨ D = 3) (p0 : 0 ≤ p) (p1 : p ≤ 15) : mW D v w Q p (Q + 1) k = mW D v w Q (p + 1) 0 k := by
  have fp := from_bds hD (t := p) p0 p1
  unfold mW
  rw [show (mFrom D (p + 1)).toNat = (mFrom D p).toNat + (mMany D p).toNat by omega, sg_app, mFrom_0 hD, sg_z0]
  omega
theorem mW_0 (hD : D = 2 ∨ D = 3) : mW D v w Q 0 0 k = 0 := by
  unfold mW
  rw [mFrom_0 hD, sg_z0]
  rfl
theorem mW_end (hD : D = 2 ∨ D = 3) : mW D v w Q (P + 1) 0 k = pTo D v 0 w 0 (mFrom D (P + 1)).toNat (mFrom D (Q + 1)).toNat k := by
  unfold mW
  rw [mFrom_0 hD, sg_z0, Int.add_zero]
  rfl
theorem mW_le (hD : D = 2 ∨ D = 3) (ov : okR v) (ow : okR w) (p0 : 0 ≤ p) (pP : p ≤ P) (P1 : P ≤ 15) (q0 : 0 ≤ q) (qQ : q ≤ Q + 1) (Q1 : Q ≤ 15) : 0 ≤ mW D v w Q p q k ∧ mW D v w Q p q k ≤ pTo D v 0 w 0 (mFrom D (P + 1)).toNat (mFrom D (Q + 1)).toNat k := by
  have fp := from_bds hD (t := p) p0 (by omega)
  have e0 : ∀ i j, 0 ≤ eM D v w k i j := fun i j => by
    unfold eM
    split
    · exact Int.mul_nonneg (ov _).1 (ow _).1
    · exact Int.le_refl _
  have mq := mFrom_mono D (s := q) (t := Q + 1) q0 qQ
  have mp := mFrom_mono D (s := p + 1) (t := P + 1) (by omega) (by omega)
  have le : ∀ (n : Nat) (f g : Nat → Int), (∀ i, i < n → f i ≤ g i) → sg n f ≤ sg n g := by
    intro n f g
    induction n with
    | zero => intro _; exact Int.le_refl _
    | succ n ih =>
      intro h
      rw [sg_succ, sg_succ]
      have := ih fun i hi => h i (by omega)
      have := h n (by omega)
      omega
  have a1 := le (mMany D p).toNat (fun i => sg (mFrom D q).toNat fun j => eM D v w k ((mFrom D p).toNat + i) j) (fun i => sg (mFrom D (Q + 1)).toNat fun j => eM D v w k ((mFrom D p).toNat + i) j) fun i _ => sg_mono (by omega) fun j _ => e0 _ _
  have a2 := sg_app (mFrom D p).toNat (mMany D p).toNat fun i => sg (mFrom D (Q + 1)).toNat fun j => eM D v w k i j
  rw [show (mFrom D p).toNat + (mMany D p).toNat = (mFrom D (p + 1)).toNat by omega] at a2
  have a3 := sg_mono (f := fun i => sg (mFrom D (Q + 1)).toNat fun j => eM D v w k i j) (n := (mFrom D (p + 1)).toNat) (m := (mFrom D (P + 1)).toNat) (by omega) fun i _ => sg_nonneg fun j _ => e0 _ _
  have a4 : 0 ≤ sg (mFrom D p).toNat fun i => sg (mFrom D (Q + 1)).toNat fun j => eM D v w k i j := sg_nonneg fun i _ => sg_nonneg fun j _ => e0 _ _
  have a5 : 0 ≤ sg (mMany D p).toNat fun i => sg (mFrom D q).toNat fun j => eM D v w k ((mFrom D p).toNat + i) j := sg_nonneg fun i _ => sg_nonneg fun j _ => e0 _ _
  have a6 : pTo D v 0 w 0 (mFrom D (P + 1)).toNat (mFrom D (Q + 1)).toNat k = sg (mFrom D (P + 1)).toNat fun i => sg (mFrom D (Q + 1)).toNat fun j => eM D v w k i j := rfl
  rw [a6]
  unfold mW
  omega
theorem apT_out (hD : D = 2 ∨ D = 3) {F G : Int → Int} {x : Int} (p0 : 0 ≤ p) (q0 : 0 ≤ q) (pq : p + q ≤ 15) (h : k < x ∨ x + fF D (p + q + 1) ≤ k) : apT D F G x (fF D (q + 1)).toNat (fF D (p + 1)).toNat 0 k = 0 := by
  have fp := fF_bd hD (s := p + 1) (by omega) (by omega)
  have fq := fF_bd hD (s := q + 1) (by omega) (by omega)
  unfold apT
  rw [sg_zero fun i hi => sg_zero fun j hj => ?_]
  · rfl
  · have := ax_ok hD (i := (i : Int)) (j := (j : Int)) (p := p) (q := q) (by omega) (by omega) p0 q0 pq (by omega) (by omega)
    unfold apE
    rw [if_neg (by omega)]
end WMW
