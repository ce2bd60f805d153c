/-! THE CLASS: how many there are of each degree -/
/-- with two variables the third goes to nothing -/
def dA (D : Int) (A : cMat) : cMat := fun i j => if D = 2 ∧ i = 2 then 0 else A i j
theorem dA_3 {D : Int} (h : ¬ D = 2) (A : cMat) : dA D A = A := by
  funext i j
  exact if_neg fun w => h w.1
theorem lpow_c0 (l : Nat → cF) (n : Nat) : lpow l n c0 = c0 := by
  induction n with
  | zero => rfl
  | succ n ih =>
    show lm l (lpow l n c0) = c0
    rw [ih, lm_c0]
theorem lm_0 (P : cP) : lm (fun _ => 0) P = c0 := by
  funext a b c
  show (if a = 0 then 0 else 0 * P (a - 1) b c) + (if b = 0 then 0 else 0 * P a (b - 1) c) + (if c = 0 then 0 else 0 * P a b (c - 1)) = 0
  rw [gs_z1, gs_z1, gs_z1, ite_self, ite_self, ite_self, cr_00, cr_00]
theorem mono_dA2 {D : Int} (h : D = 2) (A : cMat) (a b c : Nat) : mono (dA D A) a b c = if c = 0 then mono A a b c else c0 := by
  have e0 : dA D A 0 = A 0 := by funext j; exact if_neg fun w => by omega
  have e1 : dA D A 1 = A 1 := by funext j; exact if_neg fun w => by omega
  have e2 : dA D A 2 = fun _ => 0 := by funext j; exact if_pos ⟨h, rfl⟩
  unfold mono
  rw [e0, e1, e2]
  by_cases q : c = 0
  · rw [if_pos q, q]
    rfl
  · rw [if_neg q, show c = (c - 1) + 1 by omega]
    show lpow (A 0) a (lpow (A 1) b (lm (fun _ => 0) (lpow (fun _ => 0) (c - 1) cOne))) = c0
    rw [lm_0, lpow_c0, lpow_c0]
theorem trT_eq {D : Int} (hD : D = 2 ∨ D = 3) (A : cMat) {t : Nat} (t15 : t ≤ 15) : (gs (mMany D (t : Int)).toNat fun o => imgM D A t o o) = hT (dA D A) t := by
  have fb := from_bds hD (t := (t : Int)) (by omega) (by omega)
  have ix := ix_sum hD fun a b c => if a + b + c = t then mono A a b c a b c else 0
  have e1 : gs (mSz D).toNat (fun i => (fun a b c => if a + b + c = t then mono A a b c a b c else 0) (mE D (i : Int)).1 (mE D (i : Int)).2.1 (mE D (i : Int)).2.2) = gs (mMany D (t : Int)).toNat fun o => imgM D A t o o := by
    rw [gs_range (lo := (mFrom D (t : Int)).toNat) (n := (mMany D (t : Int)).toNat) (by omega)]
    · refine gs_congr fun o ho => ?_
      have dg := (sv_dg hD (t := (t : Int)) (by omega) (by omega) (K := mFrom D (t : Int) + o) (by omega) (by omega)).1
      show (if (mE D (((mFrom D (t : Int)).toNat + o : Nat) : Int)).1 + _ + _ = t then mono A _ _ _ _ _ _ else 0) = _
      rw [show (((mFrom D (t : Int)).toNat + o : Nat) : Int) = mFrom D (t : Int) + o by omega]
      unfold mDg mEa mEb mEc at dg
      rw [if_pos (by omega)]
      rfl
    · intro i hi hout
      refine if_neg fun w => ?_
      have dgf := mDg_from hD (k := (i : Int)) (by omega) (by omega)
      have dg : mDg D (i : Int) = (t : Int) := by
        unfold mDg mEa mEb mEc
        omega
      rw [dg] at dgf
      omega
  rw [e1] at ix
  rw [ix]
  unfold hT sT
  refine S3_congr fun a b c => ?_
  show (if a + b + c ≤ 17 ∧ (D = 2 → c = 0) then (if a + b + c = t then mono A a b c a b c else 0) else 0) = if a + b + c = t then mono (dA D A) a b c a b c else 0
  by_cases q : a + b + c = t
  · rw [if_pos q, if_pos q]
    by_cases e : D = 2
    · rw [mono_dA2 e]
      by_cases c0_ : c = 0
      · rw [if_pos ⟨by omega, fun _ => c0_⟩, if_pos c0_]
      · rw [if_neg (fun w => c0_ (w.2 e)), if_neg c0_]
        rfl
    · rw [dA_3 e, if_pos ⟨by omega, fun w => absurd w e⟩]
  · rw [if_neg q, if_neg q, ite_self]
theorem sz_g1 {R : Type} [Lean.Grind.CommRing R] (a b : R) : 0 + a + b = a + b + 0 := by grind
theorem sz_g2 {R : Type} [Lean.Grind.CommRing R] (a b c : R) : 0 + a + b + c = a + b + c := by grind
theorem sz_g3 {R : Type} [Lean.Grind.CommRing R] (x a b c d : R) : x = x + (a * 0 - b * 0) + (c * 0 - d * 0) := by grind
theorem sz_g4 {R : Type} [Lean.Grind.CommRing R] (a b c d e f g h k : R) : 0 = a * (b * 0 - c * 0) + d * (e * 0 - f * 0) + g * (h * 0 - k * 0) := by grind
theorem sz_g5 {R : Type} [Lean.Grind.CommRing R] (a b c d e f : R) : 0 = a * (b * 0 - c * 0) + d * (c * 0 - e * 0) + f * (e * 0 - b * 0) := by grind
theorem sz_e1 {D : Int} (hD : D = 2 ∨ D = 3) (A : cMat) : mTr D.toNat A = mE1 (dA D A) := by
  unfold mTr mE1
  rcases hD with e | e
  · rw [e, show (dA 2 A) 0 0 = A 0 0 from rfl, show (dA 2 A) 1 1 = A 1 1 from rfl, show (dA 2 A) 2 2 = 0 from rfl]
    show 0 + A 0 0 + A 1 1 = _
    exact sz_g1 _ _
  · rw [e, dA_3 (by decide)]
    show 0 + A 0 0 + A 1 1 + A 2 2 = _
    exact sz_g2 _ _ _
theorem sz_e2 {D : Int} (hD : D = 2 ∨ D = 3) (A : cMat) : mMid D A = mE2 (dA D A) := by
  unfold mMid mE2
  rcases hD with e | e
  · rw [e, if_pos rfl, show (dA 2 A) 0 0 = A 0 0 from rfl, show (dA 2 A) 1 1 = A 1 1 from rfl, show (dA 2 A) 2 2 = 0 from rfl, show (dA 2 A) 2 0 = 0 from rfl, show (dA 2 A) 2 1 = 0 from rfl, show (dA 2 A) 0 1 = A 0 1 from rfl, show (dA 2 A) 1 0 = A 1 0 from rfl]
    exact sz_g3 _ _ _ _ _
  · rw [e, dA_3 (by decide), if_neg (by decide)]
theorem sz_e3 {D : Int} (hD : D = 2 ∨ D = 3) (A : cMat) : (if D = 3 then mDet A else 0) = mE3 (dA D A) := by
  unfold mE3
  rcases hD with e | e
  · rw [e, if_neg (by decide), show (dA 2 A) 2 2 = 0 from rfl, show (dA 2 A) 2 0 = 0 from rfl, show (dA 2 A) 2 1 = 0 from rfl]
    exact sz_g5 _ _ _ _ _ _
  · rw [e, dA_3 (by decide), if_pos rfl]
    rfl
theorem sz_g6 {R : Type} [Lean.Grind.CommRing R] (a b c x y z : R) : a * x + (0 - b) * y + c * z = a * x - b * y + c * z := by grind
theorem RB_le {n r : Nat} {h : Nat → Nat} {B : Nat → Nat → cF} {V : (Nat → cF) → Prop} (hB : isRB n r h B V) : r ≤ n := by
  have ge : ∀ i, i < r → i ≤ h i := by
    intro i
    induction i with
    | zero => intro _; omega
    | succ i ih =>
      intro hi
      have a := ih (by omega)
      have b := hB.1 i (i + 1) (by omega) hi
      omega
  by_cases q : r = 0
  · omega
  · have a := ge (r - 1) (by omega)
    have b := hB.2.1 (r - 1) (by omega)
    omega
section WSZ
variable {d : Nat} {z : cm_Z} {I : cm_I} {D : Int} {sh mb : Nat} {T : Nat → cMat} {nt n : Nat} {L : Nat → cMat}
def szI (D : Int) (L : Nat → cMat) (t g : Nat) : Int := sg g fun h => fi (hT (dA D (L h)) t)
theorem szI_bd (t g : Nat) : 0 ≤ szI D L t g ∧ szI D L t g ≤ g * 2520 := ⟨sg_nonneg fun i _ => (fi_bd _).1, sg_le fun i _ => by have := fi_bd (hT (dA D (L i)) t); omega⟩
theorem t_fillSizes (hz : wz z) (hS : shOk D sh I) (y2 : z.1 66 2 = sh) (y3 : z.1 66 3 = mb) (pm : isMb mb) (hM : mbOk D T nt n L mb I) (hTD : ∀ g, g < nt → isD D (T g)) (hTM : ∀ g, g < nt → isM (T g)) {R : Nat → Nat} {B : Nat → Nat → Nat → cF} (hB : ∀ t : Nat, t ≤ 15 → isBs D T nt t (R t) (B t)) : mU (d + 3) m_Bases_fillSizes [vR 0 66] z I fun I1 => fr [67] I I1 ∧ ∀ t : Nat, t ≤ 15 → I1 67 (t : Int) = R t := by
  obtain ⟨hD, b2, b3, b4, b5, b6, G, b8, Gr, n48, en, b9⟩ := id hM
  have hs := sh_lt hS
  have hm := isMb_ge pm
  have n1 := G.1
  have hL : ∀ k, k < n → isD D (L k) := fun k hk => by rw [← b5 k hk]; exact isD_wmat _ _
  have Sh : ∀ {J : cm_I}, fr [67] I J → shOk D sh J := fun h => shOk_fr hS (h _ (by simp; omega)) (h _ (by simp; omega)) (h _ (by simp; omega)) (h _ (by simp; omega)) (h _ (by simp; omega))
  have l67 : z.2.1 67 = 16 := wz_L hz 67 16 rfl (by decide)
  -- the end: the mean
  have L177 : ∀ (c t : Nat) (J : cm_I) (v : Int) (z3 z4 z5 z6 z7 z8 z9 : Option cm_V), t + c = 16 → v = fi (fInv (toF (n : Int))) → fr [67] I J → (∀ t' : Nat, t' < t → J 67 (t' : Int) = R t') → (∀ t' : Nat, t ≤ t' → t' ≤ 15 → J 67 (t' : Int) = szI D L t' n) → cw (d + 2) cd_Bases_fillSizes (qU z fun I1 => fr [67] I I1 ∧ ∀ t : Nat, t ≤ 15 → I1 67 (t : Int) = R t) 177 [some (vR 0 66), some (vI v), some (vI (t : Int)), z3, z4, z5, z6, z7, z8, z9] [] (J, z) := by
    intro c
    induction c with
    | zero =>
      intro t J v z3 z4 z5 z6 z7 z8 z9 et ev hf lo hi
      exact wr_Bases_fillSizes_177 hz y2 (shOk_sh hS) ⟨fun _ => qU_mk ⟨hf, fun t' h => lo t' (by omega)⟩, fun w => by omega⟩
    | succ c ih =>
      intro t J v z3 z4 z5 z6 z7 z8 z9 et ev hf lo hi
      have t15 : t ≤ 15 := by omega
      have sb := szI_bd (D := D) (L := L) t n
      have vb := fi_bd (fInv (toF (n : Int)))
      rw [← ev] at vb
      have pr := mul_bd (x := szI D L t n % 2521) (y := v) (X := 2520) (Y := 2520) (by omega) (by omega) (by omega) (by omega)
      have mn := fF_many D (t : Int)
      have rl : (R t : Int) ≤ mMany D (t : Int) := by
        obtain ⟨h, hh⟩ := hB t t15
        have := RB_le hh
        have fb := from_bds hD (t := (t : Int)) (by omega) (by omega)
        omega
      have fb := from_bds hD (t := (t : Int)) (by omega) (by omega)
      have val : szI D L t n % 2521 * v % 2521 = R t := by
        have tr := bs_trace hD (t := (t : Int)) (by omega) (by omega) G Gr hL hTD hTM (hB t t15)
        have e : toF (szI D L t n % 2521 * v) = toF (R t : Int) := by
          rw [toF_mul, toF_mod, ev, toF_fi, ← tr, ec_g5]
          congr 1
          unfold szI
          rw [toF_sg, fs_gs]
          refine gs_congr fun g hg => ?_
          rw [toF_fi, trT_eq hD (L g) t15]
        have := toF_eq.mp e
        omega
      refine wr_Bases_fillSizes_177 hz y2 (shOk_sh hS) ⟨fun w => by omega, fun _ => ?_⟩
      rw [hi t (Nat.le_refl t) t15, tmod_pos sb.1, (Sh hf).2.2.2.1 ((t : Int) + 1) (by omega) (by omega), tmod_pos pr.1, val, mn]
      refine ⟨⟨by omega, by omega⟩, ⟨by omega, by omega⟩, ⟨by omega, by omega⟩, ⟨by omega, by omega⟩, fun I5 e5 => ?_⟩
      obtain ⟨f5, g5⟩ := fr_eq_iu e5
      refine ih (t + 1) I5 v _ _ _ _ _ _ _ (by omega) ev (fr_trans hf f5) (fun t' h => ?_) fun t' h1 h2 => ?_
      · rw [g5]
        show (if (t' : Int) = t then _ else _) = _
        by_cases w : t' = t
        · rw [if_pos (by omega), w]; omega
        · rw [if_neg (by omega)]; exact lo t' (by omega)
      · rw [g5]
        show (if (t' : Int) = t then _ else _) = _
        rw [if_neg (by omega)]; exact hi t' (by omega) h2
  have L10 : ∀ (c g : Nat) (J : cm_I) (z2 z3 z4 z5 z6 z7 z8 z9 : Option cm_V), g + c = n → fr [67] I J → (∀ t : Nat, t ≤ 15 → J 67 (t : Int) = szI D L t g) → cw (d + 2) cd_Bases_fillSizes (qU z fun I1 => fr [67] I I1 ∧ ∀ t : Nat, t ≤ 15 → I1 67 (t : Int) = R t) 10 [some (vR 0 66), some (vI (g : Int)), z2, z3, z4, z5, z6, z7, z8, z9] [] (J, z) := by
    intro c
    induction c with
    | zero =>
      intro g J z2 z3 z4 z5 z6 z7 z8 z9 eg hf hJ
      have gn : g = n := by omega
      subst gn
      have jm : J mb = I mb := hf mb (by simp; omega)
      refine wr_Bases_fillSizes_10 hz y3 pm y2 (shOk_sh hS) ?_
      rw [jm, en]
      refine ⟨fun _ => mI_mono (t_inv (d := d + 1) hz (by omega) (by omega)) fun v2 I1 ⟨e1, ev⟩ => ?_, fun w => by omega⟩
      subst e1
      exact L177 16 0 I1 v2 _ _ _ _ _ _ _ (by omega) ev hf (fun t' h => absurd h (Nat.not_lt_zero t')) fun t' _ h => hJ t' h
    | succ c ih =>
      intro g J z2 z3 z4 z5 z6 z7 z8 z9 eg hf hJ
      have gn : g < n := by omega
      have jm : J mb = I mb := hf mb (by simp; omega)
      have jm2 : J (mb + 2) = I (mb + 2) := hf (mb + 2) (by simp; omega)
      have rec_ := (hT_rec (dA D (L g)) 15 (by decide)).1
      have s1 := szI_bd (D := D) (L := L)
      -- degree by degree
      have L97 : ∀ (u t : Nat) (K : cm_I) (x2 x3 x4 : Int) (z9 : Option cm_V), t + u = 16 → 1 ≤ t → 0 ≤ x2 → x2 < 2521 → 0 ≤ x3 → x3 ≤ 2521 → 0 ≤ x4 → x4 < 2521 → toF x2 = mE1 (dA D (L g)) → toF x3 = 0 - mE2 (dA D (L g)) → toF x4 = mE3 (dA D (L g)) → fr [67] I K → (∀ t' : Nat, t' < t → K 67 (t' : Int) = szI D L t' (g + 1)) → (∀ t' : Nat, t ≤ t' → t' ≤ 15 → K 67 (t' : Int) = szI D L t' g) → cw (d + 2) cd_Bases_fillSizes (qU z fun I1 => fr [67] I I1 ∧ ∀ t : Nat, t ≤ 15 → I1 67 (t : Int) = R t) 97 [some (vR 0 66), some (vI (g : Int)), some (vI x2), some (vI x3), some (vI x4), some (vI (fi (hH (dA D (L g)) (t + 2)))), some (vI (fi (hH (dA D (L g)) (t + 1)))), some (vI (fi (hH (dA D (L g)) t))), some (vI (t : Int)), z9] [] (K, z) := by
        intro u
        induction u with
        | zero =>
          intro t K x2 x3 x4 z9 et t1 a0 a1 b0 b1 c0_ c1 ea eb ec hfK lo hi
          refine wr_Bases_fillSizes_97 hz ⟨fun _ => ⟨⟨by omega, by omega⟩, ih (g + 1) K _ _ _ _ _ _ _ _ (by omega) hfK fun t' h => lo t' (by omega)⟩, fun w => by omega⟩
        | succ u ihu =>
          intro t K x2 x3 x4 z9 et t1 a0 a1 b0 b1 c0_ c1 ea eb ec hfK lo hi
          have o1 := fi_bd (hH (dA D (L g)) (t + 2))
          have o2 := fi_bd (hH (dA D (L g)) (t + 1))
          have o3 := fi_bd (hH (dA D (L g)) t)
          have p1 := mul_bd (x := x2) (y := fi (hH (dA D (L g)) (t + 2))) (X := 2520) (Y := 2520) a0 (by omega) o1.1 (by omega)
          have p2 := mul_bd (x := x3) (y := fi (hH (dA D (L g)) (t + 1))) (X := 2521) (Y := 2520) b0 (by omega) o2.1 (by omega)
          have p3 := mul_bd (x := x4) (y := fi (hH (dA D (L g)) t)) (X := 2520) (Y := 2520) c0_ (by omega) o3.1 (by omega)
          have sz := s1 t g
          have nx : (x2 * fi (hH (dA D (L g)) (t + 2)) + x3 * fi (hH (dA D (L g)) (t + 1)) + x4 * fi (hH (dA D (L g)) t)) % 2521 = fi (hH (dA D (L g)) (t + 3)) := by
            rw [← fi_toF, toF_add, toF_add, toF_mul, toF_mul, toF_mul, toF_fi, toF_fi, toF_fi, ea, eb, ec, sz_g6, rec_ t t1 (by omega)]
          have nb := fi_bd (hH (dA D (L g)) (t + 3))
          refine wr_Bases_fillSizes_97 hz ⟨fun w => by omega, fun _ => ?_⟩
          rw [hi t (Nat.le_refl t) (by omega), tmod_pos (by omega), nx]
          refine ⟨⟨by omega, by omega⟩, ⟨by omega, by omega⟩, ⟨by omega, by omega⟩, ⟨by omega, by omega⟩, ⟨by omega, by omega⟩, ⟨by omega, by omega⟩, ⟨by omega, by omega⟩, fun I9 e9 => ⟨⟨by omega, by omega⟩, ?_⟩⟩
          obtain ⟨f9, g9⟩ := fr_eq_iu e9
          refine ihu (t + 1) I9 x2 x3 x4 _ (by omega) (by omega) a0 a1 b0 b1 c0_ c1 ea eb ec (fr_trans hfK f9) (fun t' h => ?_) fun t' h h2 => ?_
          · rw [g9]
            show (if (t' : Int) = t then _ else _) = _
            by_cases w : t' = t
            · rw [if_pos (by omega), w]
              rfl
            · rw [if_neg (by omega)]; exact lo t' (by omega)
          · rw [g9]
            show (if (t' : Int) = t then _ else _) = _
            rw [if_neg (by omega)]; exact hi t' (by omega) h2
      have L73 : ∀ (K : cm_I) (x2 x3 s0 : Int) (z4 z5 z6 z7 z8 z9 : Option cm_V), K = J → 0 ≤ x2 → x2 < 2521 → 0 ≤ x3 → x3 ≤ 2521 → 0 ≤ s0 → s0 < 2521 → toF x2 = mE1 (dA D (L g)) → toF x3 = 0 - mE2 (dA D (L g)) → toF s0 = mE3 (dA D (L g)) → cw (d + 2) cd_Bases_fillSizes (qU z fun I1 => fr [67] I I1 ∧ ∀ t : Nat, t ≤ 15 → I1 67 (t : Int) = R t) 73 [some (vR 0 66), some (vI (g : Int)), some (vI x2), some (vI x3), z4, z5, z6, z7, z8, z9] [vI s0] (K, z) := by
        intro K x2 x3 s0 z4 z5 z6 z7 z8 z9 eK a0 a1 b0 b1 c0_ c1 ea eb ec
        subst eK
        have sz := s1 0 g
        have k0 := hJ 0 (by decide)
        have k0' : K 67 0 = szI D L 0 g := k0
        refine wr_Bases_fillSizes_73 hz ?_
        rw [k0']
        refine ⟨⟨by omega, by omega⟩, fun I2 e2 => ?_⟩
        obtain ⟨f2, g2⟩ := fr_eq_iu e2
        have f1 : fi (hH (dA D (L g)) (1 + 2)) = 1 := by
          show fi (hT (dA D (L g)) 0) = 1
          rw [hT_0]; rfl
        have go := L97 15 1 I2 x2 x3 s0 z9 (by omega) (by decide) a0 a1 b0 b1 c0_ c1 ea eb ec (fr_trans hf f2) (fun t' h => ?_) fun t' h h2 => ?_
        · rw [f1] at go
          exact go
        · rw [show t' = 0 by omega, g2]
          show (if (0 : Int) = 0 then szI D L 0 g + 1 else _) = szI D L 0 g + fi (hT (dA D (L g)) 0)
          rw [if_pos rfl, hT_0]
          rfl
        · rw [g2]
          show (if (t' : Int) = 0 then _ else _) = _
          rw [if_neg (by omega)]; exact hJ t' h2
      refine wr_Bases_fillSizes_10 hz y3 pm y2 (shOk_sh hS) ?_
      rw [jm, en]
      refine ⟨fun w => by omega, fun _ => mI_mono (t_trace (d := d + 1) (D := D) hz pm hD (by rw [jm]; exact b2) (by rw [jm2]; exact b6) (by omega) (by omega)) fun v4 I3 ⟨e3, ev4⟩ => ?_⟩
      subst e3
      refine mI_mono (t_middle (d := d) (D := D) hz pm hD (by rw [jm]; exact b2) (by rw [jm2]; exact b6) (by omega) (by omega)) fun v6 I5 ⟨e5, ev6⟩ => ?_
      subst e5
      rw [jm2, b5 g gn] at ev4 ev6
      have bv4 := fi_bd (mTr D.toNat (L g))
      have bv6 := fi_bd (mMid D (L g))
      rw [← ev4] at bv4
      rw [← ev6] at bv6
      have t4 : toF v4 = mE1 (dA D (L g)) := by rw [ev4, toF_fi, sz_e1 hD]
      have t6 : toF (2521 - v6) = 0 - mE2 (dA D (L g)) := by rw [toF_sub, ev6, toF_fi, sz_e2 hD]; rfl
      rw [(Sh hf).2.1]
      refine ⟨⟨by omega, by omega⟩, fun n3 => L73 _ v4 (2521 - v6) 0 _ _ _ _ _ _ rfl (by omega) (by omega) (by omega) (by omega) (by decide) (by decide) t4 t6 ?_, fun e3 => ⟨⟨by omega, by omega⟩, ?_⟩⟩
      · rw [← sz_e3 hD, if_neg n3]; rfl
      · have lc := wz_mbL2 hz pm
        have dt := t_determinant (d := d) (I := I5) (D := D) hz (a := mb + 2) (by omega) (g := (g : Int)) (by omega) (by omega) (by omega) (by rw [jm2]; exact b6) hD
        rw [e3] at dt
        refine mI_mono dt fun v10 I9 ⟨e9, ev10⟩ => ?_
        subst e9
        rw [jm2, ← e3, b5 g gn] at ev10
        have bv := fi_bd (mDet (L g))
        rw [← ev10] at bv
        refine L73 _ v4 (2521 - v6) v10 _ _ _ _ _ _ rfl (by omega) (by omega) (by omega) (by omega) bv.1 bv.2 t4 t6 ?_
        rw [ev10, toF_fi, ← sz_e3 hD, if_pos e3]
  refine wr_Bases_fillSizes hz (mU_mono (t_fill (d := d + 1) hz (by decide) l67 (by decide) (by decide)) fun I1 e1 => ?_)
  obtain ⟨f1, g1⟩ := fr_eq_iw e1
  refine L10 n 0 I1 _ _ _ _ _ _ _ _ (by omega) f1 fun t ht => ?_
  rw [g1]
  unfold fillF
  rw [if_pos (by omega)]
  rfl
end WSZ
