/-! THE CLASS: products of two pieces -/
theorem sg_mono {f : Nat → Int} {n m : Nat} (h : n ≤ m) (h0 : ∀ i, i < m → 0 ≤ f i) : sg n f ≤ sg m f := by
  induction m with
  | zero => rw [show n = 0 by omega]; exact Int.le_refl _
  | succ m ih =>
    by_cases e : n = m + 1
    · rw [e]; exact Int.le_refl _
    · have := ih (by omega) fun i hi => h0 i (by omega)
      have h2 := h0 m (by omega)
      rw [sg_succ]
      omega
def apE (D : Int) (F G : Int → Int) (x k : Int) (i j : Nat) : Int := if x + ax D i j = k then F i * G j else 0
def apT (D : Int) (F G : Int → Int) (x : Int) (ng n m : Nat) (k : Int) : Int := (sg n fun i => sg ng fun j => apE D F G x k i j) + sg m fun j => apE D F G x k n j
theorem apT_row (D : Int) (F G : Int → Int) (x : Int) (ng n : Nat) (k : Int) : apT D F G x ng n ng k = apT D F G x ng (n + 1) 0 k := by
  unfold apT
  rw [sg_succ]
  show _ = _ + 0
  omega
theorem apT_skip {D : Int} {F G : Int → Int} {x : Int} {ng n : Nat} (k : Int) (h : F n = 0) : apT D F G x ng (n + 1) 0 k = apT D F G x ng n 0 k := by
  rw [← apT_row]
  unfold apT
  rw [sg_zero (n := ng) fun j _ => ?_]
  · rfl
  · unfold apE
    rw [h, Int.zero_mul, ite_self]
theorem apT_le {D : Int} {F G : Int → Int} {x : Int} {ng nf n m : Nat} (k : Int) (hF : ∀ i : Nat, i < nf → 0 ≤ F i) (hG : ∀ j : Nat, j < ng → 0 ≤ G j) (hn : n < nf) (hm : m ≤ ng) : 0 ≤ apT D F G x ng n m k ∧ apT D F G x ng n m k ≤ apT D F G x ng nf 0 k := by
  have e0 : ∀ i j : Nat, i < nf → j < ng → 0 ≤ apE D F G x k i j := fun i j hi hj => by
    unfold apE
    split
    · exact Int.mul_nonneg (hF i hi) (hG j hj)
    · exact Int.le_refl _
  have r0 : ∀ i : Nat, i < nf → 0 ≤ sg ng fun j => apE D F G x k i j := fun i hi => sg_nonneg fun j hj => e0 i j hi hj
  have a1 := sg_mono (f := fun j => apE D F G x k n j) hm fun j hj => e0 n j hn hj
  have a2 := sg_mono (f := fun i => sg ng fun j => apE D F G x k i j) (show n + 1 ≤ nf by omega) r0
  have a3 : 0 ≤ sg n fun i => sg ng fun j => apE D F G x k i j := sg_nonneg fun i hi => r0 i (by omega)
  have a4 : 0 ≤ sg m fun j => apE D F G x k n j := sg_nonneg fun j hj => e0 n j hn (by omega)
  rw [sg_succ] at a2
  unfold apT
  refine ⟨by omega, ?_⟩
  show _ ≤ _ + 0
  omega
section WAP
variable {d : Nat} {z : cm_Z} {I : cm_I} {D : Int} {sh : Nat}
theorem t_addProduct (hz : wz z) (hS : shOk D sh I) {a1 a2 a3 qf qg : Nat} (h1 : 0 < a1) (h2 : 0 < a2) (h3 : 0 < a3) (y1 : z.1 a1 0 = qf) (y2 : z.1 a2 0 = qg) (f0 : 0 < qf) (g0 : 0 < qg) {p q xf xg x : Int} (ef : I a1 1 = xf) (ep : I a1 2 = p) (eg : I a2 1 = xg) (eq : I a2 2 = q) (p0 : 0 ≤ p) (q0 : 0 ≤ q) (pq : p + q ≤ 15) (xf0 : 0 ≤ xf ∧ xf ≤ 1000000) (xfl : xf + fF D (p + 1) ≤ z.2.1 qf) (xg0 : 0 ≤ xg ∧ xg ≤ 1000000) (xgl : xg + fF D (q + 1) ≤ z.2.1 qg) (x0 : 0 ≤ x ∧ x ≤ 1000000) (xl : x + fF D (p + q + 1) ≤ z.2.1 a3) (of : ∀ i : Int, 0 ≤ i → i < fF D (p + 1) → 0 ≤ I qf (xf + i) ∧ I qf (xf + i) < 2521) (og : ∀ i : Int, 0 ≤ i → i < fF D (q + 1) → 0 ≤ I qg (xg + i) ∧ I qg (xg + i) < 2521) (n3 : a3 ∉ [sh, sh + 1, sh + 7, a1, a2, qf, qg]) (hb : ∀ k, x ≤ k → k < x + fF D (p + q + 1) → 0 ≤ I a3 k ∧ I a3 k + apT D (fun i => I qf (xf + i)) (fun j => I qg (xg + j)) x (fF D (q + 1)).toNat (fF D (p + 1)).toNat 0 k ≤ 2147483647) : mU (d + 1) m_Shape_addProduct [vR 9 sh, vR 5 a1, vR 5 a2, vR 20 a3, vI x] z I fun I1 => fr [a3] I I1 ∧ ∀ k, I1 a3 k = I a3 k + apT D (fun i => I qf (xf + i)) (fun j => I qg (xg + j)) x (fF D (q + 1)).toNat (fF D (p + 1)).toNat 0 k := by
  have hD := shOk_D hS
  have fp := fF_bd hD (s := p + 1) (by omega) (by omega)
  have fq := fF_bd hD (s := q + 1) (by omega) (by omega)
  have f16p := fF_mono hD (s := p + 1) (t := 16) (by omega) (by omega) (by omega)
  have fi := hS.2.2.2.1
  have hFn : ∀ i : Nat, i < (fF D (p + 1)).toNat → 0 ≤ (fun i => I qf (xf + i)) (i : Int) := fun i hi => (of i (by omega) (by omega)).1
  have hGn : ∀ i : Nat, i < (fF D (q + 1)).toNat → 0 ≤ (fun i => I qg (xg + i)) (i : Int) := fun i hi => (og i (by omega) (by omega)).1
  have nb : ∀ {J : cm_I}, fr [a3] I J → ∀ b, b ∈ [sh, sh + 1, sh + 7, a1, a2, qf, qg] → J b = I b := fun hf b hb => hf b (by rw [List.mem_singleton]; intro e; exact n3 (e ▸ hb))
  have L3 : ∀ (c i : Nat) (J : cm_I) (z6 z7 z8 z9 z10 z11 z12 z13 : Option cm_V), i + c = (fF D (p + 1)).toNat → fr [a3] I J → (∀ k, J a3 k = I a3 k + apT D (fun i => I qf (xf + i)) (fun j => I qg (xg + j)) x (fF D (q + 1)).toNat i 0 k) → cw d cd_Shape_addProduct (qU z fun I1 => fr [a3] I I1 ∧ ∀ k, I1 a3 k = I a3 k + apT D (fun i => I qf (xf + i)) (fun j => I qg (xg + j)) x (fF D (q + 1)).toNat (fF D (p + 1)).toNat 0 k) 3 [some (vR 9 sh), some (vR 5 a1), some (vR 5 a2), some (vR 20 a3), some (vI x), some (vI (i : Int)), z6, z7, z8, z9, z10, z11, z12, z13] [] (J, z) := by
    intro c
    induction c with
    | zero =>
      intro i J z6 z7 z8 z9 z10 z11 z12 z13 e hf hk
      refine wr_Shape_addProduct_3 hz (shOk_sh hS) h1 y1 f0 ?_
      rw [nb hf a1 (by simp), nb hf (sh + 1) (by simp), ep, fi (p + 1) (by omega) (by omega)]
      refine ⟨⟨by omega, by omega⟩, ⟨by omega, by omega⟩, fun _ => qU_mk ⟨hf, fun k => ?_⟩, fun w => by omega⟩
      rw [hk k, show i = (fF D (p + 1)).toNat by omega]
    | succ c ih =>
      intro i J z6 z7 z8 z9 z10 z11 z12 z13 e hf hk
      have oi := of (i : Int) (by omega) (by omega)
      obtain ⟨bp, i16⟩ := blk_lt hD (p := (i : Int)) (t := p) (by omega) (by omega) p0 (by omega)
      obtain ⟨b1, b2, b3, b4, b5, b6, b7, b8⟩ := blk_ok hD (p := (i : Int)) (by omega) i16
      have L65 : ∀ (u : Nat) (t : Int) (J : cm_I) (z10 z11 z12 z13 : Option cm_V), 0 ≤ t → t + u = q + 1 → fr [a3] I J → (∀ k, J a3 k = I a3 k + apT D (fun i => I qf (xf + i)) (fun j => I qg (xg + j)) x (fF D (q + 1)).toNat i (fF D t).toNat k) → cw d cd_Shape_addProduct (qU z fun I1 => fr [a3] I I1 ∧ ∀ k, I1 a3 k = I a3 k + apT D (fun i => I qf (xf + i)) (fun j => I qg (xg + j)) x (fF D (q + 1)).toNat (fF D (p + 1)).toNat 0 k) 65 [some (vR 9 sh), some (vR 5 a1), some (vR 5 a2), some (vR 20 a3), some (vI x), some (vI (i : Int)), some (vI (I qf (xf + i))), some (vI (blk D i)), some (vI (lst D i)), some (vI t), z10, z11, z12, z13] [] (J, z) := by
        intro u
        induction u with
        | zero =>
          intro t J z10 z11 z12 z13 t0 et hf hk
          refine wr_Shape_addProduct_65 hz h2 (shOk_sh hS) ?_
          rw [nb hf a2 (by simp), eq]
          refine ⟨fun _ => ⟨⟨by omega, by omega⟩, ih (i + 1) J _ _ _ _ _ _ _ _ (by omega) hf fun k => ?_⟩, fun w => by omega⟩
          rw [hk k, show t = q + 1 by omega, apT_row]
        | succ u ihu =>
          intro t J z10 z11 z12 z13 t0 et hf hk
          have ft := fF_bd hD (s := t) t0 (by omega)
          have ft1 := fF_bd hD (s := t + 1) (by omega) (by omega)
          have fm1 := fF_mono hD (s := t) (t := t + 1) (by omega) (by omega) (by omega)
          have fm2 := fF_mono hD (s := t + 1) (t := q + 1) (by omega) (by omega) (by omega)
          have fst := fF_bd hD (s := blk D i + t) (by omega) (by omega)
          have L128 : ∀ (v : Nat) (j : Int) (J : cm_I), 0 ≤ j → j + v = fF D (t + 1) - fF D t → fr [a3] I J → (∀ k, J a3 k = I a3 k + apT D (fun i => I qf (xf + i)) (fun j => I qg (xg + j)) x (fF D (q + 1)).toNat i (fF D t + j).toNat k) → cw d cd_Shape_addProduct (qU z fun I1 => fr [a3] I I1 ∧ ∀ k, I1 a3 k = I a3 k + apT D (fun i => I qf (xf + i)) (fun j => I qg (xg + j)) x (fF D (q + 1)).toNat (fF D (p + 1)).toNat 0 k) 128 [some (vR 9 sh), some (vR 5 a1), some (vR 5 a2), some (vR 20 a3), some (vI x), some (vI (i : Int)), some (vI (I qf (xf + i))), some (vI (blk D i)), some (vI (lst D i)), some (vI t), some (vI (xg + fF D t)), some (vI (x + fF D (blk D i + t) + lst D i)), some (vI (fF D (t + 1) - fF D t)), some (vI j)] [] (J, z) := by
            intro v
            induction v with
            | zero =>
              intro j J j0 ej hf hk
              refine wr_Shape_addProduct_128 hz h3 h2 y2 g0 ⟨fun _ => ⟨⟨by omega, by omega⟩, ihu (t + 1) J _ _ _ _ (by omega) (by omega) hf fun k => ?_⟩, fun w => by omega⟩
              rw [hk k, show fF D t + j = fF D (t + 1) by omega]
            | succ v ihv =>
              intro j J j0 ej hf hk
              have oj := og (fF D t + j) (by omega) (by omega)
              obtain ⟨c1, c2⟩ := blk_of hD (s := t) (c := j) t0 (by omega) j0 (by omega)
              obtain ⟨x1, x2, x3⟩ := ax_ok hD (i := (i : Int)) (j := fF D t + j) (p := p) (q := q) (by omega) (by omega) p0 q0 pq (by omega) (by omega)
              have eax : ax D i (fF D t + j) = fF D (blk D i + t) + lst D i + j := by unfold ax; rw [c1, c2]; omega
              have ek : x + fF D (blk D i + t) + lst D i + j = x + ax D i (fF D t + j) := by rw [eax]; omega
              have pr := mul_bd (x := I qf (xf + i)) (y := I qg (xg + (fF D t + j))) (X := 2520) (Y := 2520) (by omega) (by omega) (by omega) (by omega)
              have hbk := hb (x + ax D i (fF D t + j)) (by omega) (by omega)
              have nxt : ∀ k, apT D (fun i => I qf (xf + i)) (fun j => I qg (xg + j)) x (fF D (q + 1)).toNat i ((fF D t + j).toNat + 1) k = apT D (fun i => I qf (xf + i)) (fun j => I qg (xg + j)) x (fF D (q + 1)).toNat i (fF D t + j).toNat k + (if k = x + ax D i (fF D t + j) then I qf (xf + i) * I qg (xg + (fF D t + j)) else 0) := by
                intro k
                unfold apT
                rw [sg_succ]
                unfold apE
                rw [show (((fF D t + j).toNat : Nat) : Int) = fF D t + j by omega]
                by_cases w : k = x + ax D i (fF D t + j)
                · rw [if_pos w.symm, if_pos w]
                  show _ + (_ + I qf (xf + i) * I qg (xg + (fF D t + j))) = _
                  omega
                · rw [if_neg (fun q => w q.symm), if_neg w]; omega
              have le := apT_le (D := D) (F := fun i => I qf (xf + i)) (G := fun j => I qg (xg + j)) (ng := (fF D (q + 1)).toNat) (nf := (fF D (p + 1)).toNat) (x := x) (n := i) (m := (fF D t + j).toNat + 1) (x + ax D i (fF D t + j)) hFn hGn (by omega) (by omega)
              have le0 := apT_le (D := D) (F := fun i => I qf (xf + i)) (G := fun j => I qg (xg + j)) (ng := (fF D (q + 1)).toNat) (nf := (fF D (p + 1)).toNat) (x := x) (n := i) (m := (fF D t + j).toNat) (x + ax D i (fF D t + j)) hFn hGn (by omega) (by omega)
              rw [nxt, if_pos rfl] at le
              refine wr_Shape_addProduct_128 hz h3 h2 y2 g0 ⟨fun w => by omega, fun _ => ?_⟩
              rw [nb hf qg (by simp), ek, hk, show xg + fF D t + j = xg + (fF D t + j) by omega]
              refine ⟨⟨by omega, by omega⟩, ⟨by omega, by omega⟩, ⟨by omega, by omega⟩, ⟨by omega, by omega⟩, ⟨by omega, by omega⟩, ⟨by omega, by omega⟩, fun J2 e2 => ⟨⟨by omega, by omega⟩, ?_⟩⟩
              obtain ⟨f2, g2⟩ := fr_eq_iu e2
              refine ihv (j + 1) J2 (by omega) (by omega) (fr_trans hf f2) fun k => ?_
              rw [g2, show (fF D t + (j + 1)).toNat = (fF D t + j).toNat + 1 by omega, nxt]
              show (if k = x + ax D i (fF D t + j) then _ else J a3 k) = _
              by_cases w : k = x + ax D i (fF D t + j)
              · rw [if_pos w, if_pos w, w]; omega
              · rw [if_neg w, if_neg w, hk k]; omega
          refine wr_Shape_addProduct_65 hz h2 (shOk_sh hS) ?_
          rw [nb hf a2 (by simp), nb hf (sh + 1) (by simp), eq, eg, fi t t0 (by omega), fi (blk D i + t) (by omega) (by omega), fi (t + 1) (by omega) (by omega)]
          refine ⟨fun w => by omega, fun _ => ⟨⟨by omega, by omega⟩, ⟨by omega, by omega⟩, ⟨by omega, by omega⟩, ⟨by omega, by omega⟩, ⟨by omega, by omega⟩, ⟨by omega, by omega⟩, ⟨by omega, by omega⟩, ⟨by omega, by omega⟩, ⟨by omega, by omega⟩, L128 (fF D (t + 1) - fF D t).toNat 0 J (by omega) (by omega) hf fun k => ?_⟩⟩
          rw [hk k, Int.add_zero]
      refine wr_Shape_addProduct_3 hz (shOk_sh hS) h1 y1 f0 ?_
      rw [nb hf a1 (by simp), nb hf (sh + 1) (by simp), nb hf qf (by simp), nb hf (sh + 7) (by simp), ep, ef, fi (p + 1) (by omega) (by omega), (shOk_blk hS (p := (i : Int)) (by omega) i16).1, (wz_shL7 hz hS).1, fi (blk D i) b1 (by omega)]
      refine ⟨⟨by omega, by omega⟩, ⟨by omega, by omega⟩, fun w => by omega, fun _ => ⟨⟨by omega, by omega⟩, ⟨by omega, by omega⟩, fun nz => ⟨⟨by omega, by omega⟩, ⟨by omega, by omega⟩, ⟨by omega, by omega⟩, ?_⟩, fun zr => ⟨⟨by omega, by omega⟩, ih (i + 1) J _ _ _ _ _ _ _ _ (by omega) hf fun k => ?_⟩⟩⟩
      · rw [show (i : Int) - fF D (blk D i) = lst D i by omega]
        refine L65 (q + 1).toNat 0 J _ _ _ _ (by omega) (by omega) hf fun k => ?_
        rw [hk k, show (fF D 0).toNat = 0 by rcases hD with w | w <;> rw [w] <;> decide]
      · rw [hk k, apT_skip k zr]
  refine wr_Shape_addProduct hz (shOk_sh hS) ?_
  refine L3 (fF D (p + 1)).toNat 0 I _ _ _ _ _ _ _ _ (by omega) (fr_refl _ _) fun k => ?_
  unfold apT
  show _ = _ + (0 + 0)
  omega
end WAP
