/-! THE ROWS of products, as vectors -/
/-- the secondary ones as the reference keeps them -/
def seSt (l : List (Int × Nat)) (I : cm_I) : Prop := I 209 50 = (l.length : Int) ∧ ∀ j : Nat, j < l.length → I 239 (j : Int) = (sx_x l j).1 ∧ I 240 (j : Int) = ((sx_x l j).2 : Int)
/-- the primary ones as the reference keeps them -/
def prSt (D : Int) (v : Nat → Int → Int) (dg : Nat → Int) (I : cm_I) : Prop := okR (I 236) ∧ ∀ i : Nat, (i : Int) < D → I 234 (i : Int) = dg i ∧ isRow (I 236) (1140 * (i : Int)) (v i)
section SQ
variable {D : Int} {T : Nat → cMat} {nt n : Nat} {L : Nat → cMat} {v : Nat → Int → Int} {dg : Nat → Int} {I : cm_I}
theorem prB_of (S : sx_S D T nt n L v dg) (eD : I 209 1 = D) (hm : mMon I) (hP : prSt D v dg I) (hB : bsOk T nt I) (b16 : 16 ≤ I 209 37) {l : List (Int × Nat)} (hl : sx_L D T nt l) (ll : l.length ≤ 219) (hS : seSt l I) : prB T nt I (v 0) (v 1) (v 2) := by
  subst eD
  have hD := S.1
  have hv := S.2.2.2.2.1
  have q0 := hP.2 0 (by omega)
  have q1 := hP.2 1 (by omega)
  have w0 := hv 0 (by omega)
  have w1 := hv 1 (by omega)
  have z0 : ((0 : Nat) : Int) = 0 := rfl
  have z1 : ((1 : Nat) : Int) = 1 := rfl
  have z2 : ((2 : Nat) : Int) = 2 := rfl
  rw [z0] at q0
  rw [z1] at q1
  refine ⟨hD, hm, hP.1, hB, b16, ?_, ?_, fun e => ⟨?_, ?_⟩, ?_, ?_, ⟨by omega, by omega⟩, ⟨by omega, by omega⟩, fun e => ?_, ⟨by rw [hS.1]; omega, by rw [hS.1]; omega⟩, fun j j0 j1 => ?_⟩
  · exact q0.2
  · exact q1.2
  · have q2 := hP.2 2 (by omega)
    exact q2.2
  · have q2 := hP.2 2 (by omega)
    rw [z2] at q2
    rw [(hv 2 (by omega)).2.1, q2.1]
  · rw [w0.2.1, q0.1]
  · rw [w1.2.1, q1.1]
  · have q2 := hP.2 2 (by omega)
    rw [z2] at q2
    have := hv 2 (by omega)
    omega
  · rw [hS.1] at j1
    obtain ⟨s1, s2⟩ := hS.2 j.toNat (by omega)
    rw [show ((j.toNat : Nat) : Int) = j by omega] at s1 s2
    obtain ⟨x0, x1, x2⟩ := hl _ (sx_at (l := l) (j := j.toNat) (by omega)).1
    rw [s1, s2]
    exact ⟨x0, x1, by omega, by rw [Int.toNat_natCast]; exact x2⟩
theorem tJ_X (S : sx_S D T nt n L v dg) (hP : prSt D v dg I) {l : List (Int × Nat)} (hS : seSt l I) (t : Int) : tJ D (I 234 0) (I 234 1) (I 234 2) t (I 239) (I 209 50).toNat 0 = sx_X D dg l t := by
  have hD := S.1
  have q0 := (hP.2 0 (by omega)).1
  have q1 := (hP.2 1 (by omega)).1
  have z0 : ((0 : Nat) : Int) = 0 := rfl
  have z1 : ((1 : Nat) : Int) = 1 := rfl
  rw [z0] at q0
  rw [z1] at q1
  rw [q0, q1, hS.1, Int.toNat_natCast]
  unfold sx_X
  refine tJ_congr (fun e => (hP.2 2 (by omega)).1) _ _ fun i i0 i1 => ?_
  have := (hS.2 i.toNat (by omega)).1
  rw [show ((i.toNat : Nat) : Int) = i by omega] at this
  exact this
theorem prE_at {l : List (Int × Nat)} (hS : seSt l I) {j : Nat} (hj : j < l.length) : prE T nt I (j : Int) = sx_b (I 209 1) T nt (sx_x l j) := by
  obtain ⟨s1, s2⟩ := hS.2 j hj
  unfold prE sx_b
  rw [s1, s2, Int.toNat_natCast]
theorem prX_vec (S : sx_S D T nt n L v dg) (eD : I 209 1 = D) {l : List (Int × Nat)} (hl : sx_L D T nt l) (hS : seSt l I) {t : Nat} (t1 : t ≤ 15) {x : tup4} (hx : x ∈ sx_X D dg l t) {c : Nat} (hc : c < (mMany D t).toNat) : toF (prX D (prE T nt I) (v 0) (v 1) (v 2) x (mFrom D t + c)) = sv_c D t (sx_t D T nt v l x) c := by
  subst eD
  have hD := S.1
  have hv := S.2.2.2.2.1
  obtain ⟨x0, x1, x2, x3, x4, x5, x6⟩ := sx_Xok S hl hx
  have fb := from_bds hD (t := (t : Int)) (by omega) (by omega)
  obtain ⟨d0, d1, d2⟩ := sv_dg hD (t := (t : Int)) (by omega) (by omega) (K := mFrom (I 209 1) t + c) (by omega) (by omega)
  obtain ⟨y0, y1, y2⟩ := hl _ (sx_at x1).1
  have ee : prE T nt I x.1 = sx_b (I 209 1) T nt (sx_x l x.1.toNat) := by
    have := prE_at (T := T) (nt := nt) hS x1
    rw [show ((x.1.toNat : Nat) : Int) = x.1 by omega] at this
    exact this
  have ok : vOk (I 209 1) (sx_b (I 209 1) T nt (sx_x l x.1.toNat)) := vOk_bRow hD y0 y1 _
  have de := mDeg_bRow_le hD y0 y1 ((bsX (I 209 1) T nt (sx_x l x.1.toNat).1).2 (sx_x l x.1.toNat).2)
  have w0 := hv 0 (by omega)
  have w1 := hv 1 (by omega)
  have n0 : mDeg (I 209 1) (v 0) 0 * (x.2.1.toNat : Int) = ((x.2.1.toNat * (dg 0).toNat : Nat) : Int) := by
    rw [w0.2.1, Int.natCast_mul, show (((dg 0).toNat : Nat) : Int) = dg 0 by omega, Int.mul_comm]
  have n1 : mDeg (I 209 1) (v 1) 0 * (x.2.2.1.toNat : Int) = ((x.2.2.1.toNat * (dg 1).toNat : Nat) : Int) := by
    rw [w1.2.1, Int.natCast_mul, show (((dg 1).toNat : Nat) : Int) = dg 1 by omega, Int.mul_comm]
  have n2 : mDeg (I 209 1) (v 2) 0 * (x.2.2.2.toNat : Int) = ((x.2.2.2.toNat * sx_3 (I 209 1) dg : Nat) : Int) := by
    rcases hD with e | e
    · rw [x5 e]
      show _ * (0 : Int) = ((0 * _ : Nat) : Int)
      rw [Int.mul_zero, Nat.zero_mul]; rfl
    · have w2 := hv 2 (by omega)
      unfold sx_3
      rw [if_neg (by omega), w2.2.1, Int.natCast_mul, show (((dg 2).toNat : Nat) : Int) = dg 2 by omega, Int.mul_comm]
  unfold sx_d at x6
  have dd : mDeg (I 209 1) (sx_b (I 209 1) T nt (sx_x l x.1.toNat)) 0 ≤ (sx_x l x.1.toNat).1 := de
  have tp := toP_pr3 hD (u := sx_b (I 209 1) T nt (sx_x l x.1.toNat)) (v0 := v 0) (v1 := v 1) (v2 := v 2) ok (a := x.2.1.toNat) (b := x.2.2.1.toNat) (k := x.2.2.2.toNat) (by rw [n0, n1, n2]; omega)
  unfold prX sv_c atE
  rw [ee, ← toP_at hD _ d1 d2 (by omega), tp]
  unfold sx_t prP sx_e th3
  rcases hD with e | e
  · rw [if_pos e, x5 e]
    rfl
  · rw [if_neg (by omega)]
end SQ
