/-! AVERAGES as series -/
def cSm (n : Nat) (F : Nat → cP) : cP := fun a b c => gs n fun g => F g a b c
theorem cSm_eq (n : Nat) (F : Nat → cP) : cSm n F = @gs cP cPr n F := by
  funext a b c
  exact (cGs_at n F a b c).symm
theorem cMul_Sm (u : cP) (n : Nat) (F : Nat → cP) : cMul u (cSm n F) = cSm n fun g => cMul u (F g) := by
  rw [cSm_eq, cSm_eq]
  exact (@gs_mul cP cPr n u F).symm
theorem mvP_Sm (A : cMat) (n : Nat) (F : Nat → cP) : mvP A (cSm n F) = cSm n fun g => mvP A (F g) := by
  funext a b c
  show S3 _ (fun i j k => (gs n fun g => F g i j k) * mono A i j k a b c) = gs n fun g => S3 _ fun i j k => F g i j k * mono A i j k a b c
  rw [S3_congr fun i j k => (gs_mulr n (mono A i j k a b c) fun g => F g i j k).symm, S3_sw1]
theorem cMul_S2 (k : cF) (P Q : cP) : cMul P (cS k Q) = cS k (cMul P Q) := by rw [cMul_comm, cMul_S, cMul_comm]
theorem gs_perm {R : Type} [Lean.Grind.CommRing R] {n : Nat} {s : Nat → Nat} (h1 : ∀ i, i < n → s i < n) (h2 : ∀ i j, i < n → j < n → s i = s j → i = j) (f : Nat → R) : gs n (fun g => f (s g)) = gs n f := by
  have e1 : ∀ g, g < n → f (s g) = gs n fun y => if s g = y then f y else 0 := by
    intro g hg
    rw [gs_one (k := s g) (h1 g hg) fun y _ he => if_neg fun q => he q.symm]
    rw [if_pos rfl]
  rw [gs_congr e1, gs_swap]
  refine gs_congr fun y hy => ?_
  obtain ⟨x, hx, ex⟩ := pigeon n s h1 h2 y hy
  rw [gs_one (k := x) hx fun g hg he => if_neg fun q => he (h2 g x hg hx (by rw [q, ex]))]
  rw [if_pos ex]
/-- left alone by all tables -/
def InvP (T : Nat → cMat) (nt : Nat) (u : cP) : Prop := ∀ t, t < nt → mvP (T t) u = u
def avP (n : Nat) (L : Nat → cMat) (P : cP) : cP := cS (fInv (toF (n : Int))) (cSm n fun g => mvP (L g) P)
theorem gs_const (n : Nat) (x : cF) : gs n (fun _ => x) = toF (n : Int) * x := by
  induction n with
  | zero => exact (gs_z1 x).symm
  | succ n ih =>
    rw [gs, ih, show ((n + 1 : Nat) : Int) = (n : Int) + 1 by omega, toF_add, gs_z4]
    congr 1
    exact (gs_z2 x).symm
section AVG
variable {T : Nat → cMat} {nt n : Nat} {L : Nat → cMat}
theorem inv_mem (G : isG T nt n L) {u : cP} (hu : InvP T nt u) : ∀ k, k < n → mvP (L k) u = u := by
  intro k
  induction k using Nat.strongRecOn with
  | _ k ih =>
    intro hk
    by_cases e : k = 0
    · rw [e, G.2.2.1, mvP_id]
    · obtain ⟨a, b, ha, hb, eL⟩ := G.2.2.2.2.2.1 k (by omega) hk
      rw [eL, ← mvP_mvP, ih a ha (by omega), hu b hb]
theorem av_inv (G : isG T nt n L) (hT : ∀ t, t < nt → mDet (T t) ≠ 0) (P : cP) : InvP T nt (avP n L P) := by
  intro b hb
  unfold avP
  rw [mvP_S, mvP_Sm]
  congr 1
  have ex : ∃ s : Nat → Nat, ∀ g, g < n → s g < n ∧ L (s g) = mm (L g) (T b) := by
    refine ⟨fun g => @dite Nat (g < n) (Nat.decLt g n) (fun h => Classical.choose (G.2.2.2.2.2.2 g b h hb)) (fun _ => 0), fun g hg => ?_⟩
    have := Classical.choose_spec (G.2.2.2.2.2.2 g b hg hb)
    show @dite Nat (g < n) (Nat.decLt g n) _ _ < n ∧ L (@dite Nat (g < n) (Nat.decLt g n) _ _) = _
    rw [dif_pos hg]
    exact this
  obtain ⟨s, hs⟩ := ex
  have inj : ∀ i j, i < n → j < n → s i = s j → i = j := by
    intro i j hi hj e
    have e1 : mm (L i) (T b) = mm (L j) (T b) := by rw [← (hs i hi).2, ← (hs j hj).2, e]
    have e2 : mm (mm (L i) (T b)) (mUn (T b)) = mm (mm (L j) (T b)) (mUn (T b)) := by rw [e1]
    rw [mm_assoc, mm_assoc, mm_un (hT b hb), mm_id (G.2.2.2.1 i hi), mm_id (G.2.2.2.1 j hj)] at e2
    exact G.2.2.2.2.1 i j hi hj e2
  funext x y w
  show gs n (fun g => mvP (T b) (mvP (L g) P) x y w) = gs n fun g => mvP (L g) P x y w
  rw [← gs_perm (fun i hi => (hs i hi).1) inj fun g => mvP (L g) P x y w]
  refine gs_congr fun g hg => ?_
  rw [mvP_mvP, (hs g hg).2]
theorem av_self (G : isG T nt n L) {u : cP} (hu : InvP T nt u) : avP n L u = u := by
  have n1 := G.1
  have n2 := G.2.1
  have nz : toF (n : Int) ≠ 0 := fun e => by
    have := (toF_eq_zero (x := (n : Int)) (by omega) (by omega)).mp e
    omega
  funext a b c
  show fInv (toF (n : Int)) * gs n (fun g => mvP (L g) u a b c) = u a b c
  rw [gs_congr (g := fun _ => u a b c) fun g hg => by rw [inv_mem G hu g hg], gs_const, ← gs_z5, el_g4 (fInv _), fInv_mul nz, gs_z2]
theorem av_mul (G : isG T nt n L) {u : cP} (hu : InvP T nt u) (P : cP) : avP n L (cMul u P) = cMul u (avP n L P) := by
  unfold avP
  rw [cMul_S2, cMul_Sm]
  congr 1
  funext a b c
  show gs n (fun g => mvP (L g) (cMul u P) a b c) = gs n fun g => cMul u (mvP (L g) P) a b c
  exact gs_congr fun g hg => by rw [mvP_mul, inv_mem G hu g hg]
theorem av_add (n : Nat) (L : Nat → cMat) (P Q : cP) : avP n L (cAdd P Q) = cAdd (avP n L P) (avP n L Q) := by
  funext a b c
  show fInv (toF (n : Int)) * gs n (fun g => mvP (L g) (cAdd P Q) a b c) = fInv (toF (n : Int)) * gs n (fun g => mvP (L g) P a b c) + fInv (toF (n : Int)) * gs n (fun g => mvP (L g) Q a b c)
  have : gs n (fun g => mvP (L g) (cAdd P Q) a b c) = gs n (fun g => mvP (L g) P a b c) + gs n (fun g => mvP (L g) Q a b c) := by
    rw [← gs_add]
    exact gs_congr fun g _ => by rw [mvP_add]; rfl
  rw [this]
  exact Lean.Grind.Semiring.left_distrib _ _ _
/-- what is left alone and lies in the ideal is a sum of products with ones left alone -/
theorem inv_ideal (G : isG T nt n L) (hT : ∀ t, t < nt → mDet (T t) ≠ 0) {t1 t2 t3 u : cP} (h1 : InvP T nt t1) (h2 : InvP T nt t2) (h3 : InvP T nt t3) (hu : InvP T nt u) (hI : inI t1 t2 t3 u) : ∃ a b c, InvP T nt a ∧ InvP T nt b ∧ InvP T nt c ∧ u = cAdd (cAdd (cMul t1 a) (cMul t2 b)) (cMul t3 c) := by
  obtain ⟨a, b, c, e⟩ := hI
  refine ⟨avP n L a, avP n L b, avP n L c, av_inv G hT a, av_inv G hT b, av_inv G hT c, ?_⟩
  rw [← av_mul G h1, ← av_mul G h2, ← av_mul G h3, ← av_add, ← av_add, ← e, av_self G hu]
theorem inv_mul {u w : cP} (hu : InvP T nt u) (hw : InvP T nt w) : InvP T nt (cMul u w) := fun t ht => by rw [mvP_mul, hu t ht, hw t ht]
theorem inv_add {u w : cP} (hu : InvP T nt u) (hw : InvP T nt w) : InvP T nt (cAdd u w) := fun t ht => by rw [mvP_add, hu t ht, hw t ht]
theorem inv_S {u : cP} (k : cF) (hu : InvP T nt u) : InvP T nt (cS k u) := fun t ht => by rw [mvP_S, hu t ht]
theorem inv_pow {u : cP} (hu : InvP T nt u) (m : Nat) : InvP T nt (cPow u m) := fun t ht => by rw [mvP_pow, hu t ht]
/-- the part of a degree of what is left alone -/
theorem mvP_hc (A : cMat) (P : cP) (m : Nat) : mvP A (hc m P) = hc m (mvP A P) := by
  funext a b c
  unfold hc
  by_cases q : a + b + c = m
  · rw [if_pos q]
    refine S3_congr fun i j k => ?_
    show (if i + j + k = m then P i j k else 0) * mono A i j k a b c = P i j k * mono A i j k a b c
    by_cases e : i + j + k = m
    · rw [if_pos e]
    · rw [if_neg e, hom_mono A i j k a b c (by omega), gs_z1, gs_z3]
  · rw [if_neg q]
    refine gs_zero fun i _ => gs_zero fun j _ => gs_zero fun k _ => ?_
    show (if i + j + k = m then P i j k else 0) * mono A i j k a b c = 0
    by_cases e : i + j + k = m
    · rw [hom_mono A i j k a b c (by omega), gs_z3]
    · rw [if_neg e, gs_z1]
theorem inv_hc {u : cP} (hu : InvP T nt u) (m : Nat) : InvP T nt (hc m u) := fun t ht => by rw [mvP_hc, hu t ht]
end AVG
