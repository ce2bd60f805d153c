/-! AVERAGING: a projection, its trace -/
/-- a vector of degree t is moved -/
def act (D : Int) (A : cMat) (t : Int) (w : Nat → cF) : Nat → cF := fun o => gs (mMany D t).toNat fun k => w k * imgM D A t k o
section WPJ
variable {D t : Int}
theorem act_row (hD : D = 2 ∨ D = 3) (t0 : 0 ≤ t) (t1 : t ≤ 15) (A : cMat) (w : Nat → cF) : bRow D t (act D A t w) = mv D A (bRow D t w) := by
  have fb := from_bds hD t0 t1
  obtain ⟨s1, s2, s3⟩ := m16_bd hD
  have f16 : mFrom D (t + 1) ≤ mFrom D 16 := mFrom_mono D (by omega) (by omega)
  funext K
  unfold mv
  by_cases q : 0 ≤ K ∧ K < mFrom D 16
  · rw [if_pos q]
    by_cases r : mFrom D t ≤ K ∧ K < mFrom D (t + 1)
    · obtain ⟨dg, -, -⟩ := sv_dg hD t0 t1 (K := K) r.1 r.2
      have e1 : bRow D t (act D A t w) K = fi (act D A t w (K - mFrom D t).toNat) := if_pos r
      rw [e1]
      congr 1
      unfold act mvF mvN
      rw [dg]
      refine gs_congr fun i hi => ?_
      rw [sv_row hD t0 t1 w hi]
      unfold imgM
      rw [show mFrom D t + (((K - mFrom D t).toNat : Nat) : Int) = K by omega]
    · have e1 : bRow D t (act D A t w) K = 0 := if_neg r
      rw [e1]
      have z : mvF D A (bRow D t w) K = 0 := by
        obtain ⟨d0, d1, d2, d3⟩ := mDg_from hD q.1 (by omega)
        have d15 : mDg D K ≤ 15 := (mDg_lt hD (k := K) (t := 15) q.1 (by omega) (by omega)).mp (by rw [show (15 : Int) + 1 = 16 by omega]; exact q.2)
        have fb2 := from_bds hD d0 d15
        unfold mvF mvN
        refine gs_zero fun i hi => ?_
        have : bRow D t w (mFrom D (mDg D K) + i) = 0 := by
          unfold bRow
          rw [if_neg]
          intro x
          have e1 := (sv_dg hD t0 t1 x.1 x.2).1
          have e2 := (sv_dg hD d0 d15 (K := mFrom D (mDg D K) + i) (by omega) (by omega)).1
          exact r ⟨by rw [e1] at e2; rw [← e2] at d2; exact d2, by rw [e1] at e2; rw [← e2] at d3; exact d3⟩
        rw [this, toF_zero, gs_z1]
      rw [z]
      rfl
  · rw [if_neg q]
    exact if_neg (by omega)
theorem act_P (hD : D = 2 ∨ D = 3) (t0 : 0 ≤ t) (t1 : t ≤ 15) {A : cMat} (hA : isD D A) (w : Nat → cF) : toP D (bRow D t (act D A t w)) = mvP A (toP D (bRow D t w)) := by rw [act_row hD t0 t1, toP_mv hD hA]
theorem row_inj (hD : D = 2 ∨ D = 3) (t0 : 0 ≤ t) (t1 : t ≤ 15) {u w : Nat → cF} (e : toP D (bRow D t u) = toP D (bRow D t w)) {o : Nat} (ho : o < (mMany D t).toNat) : u o = w o := by
  have := toP_inj hD (vOk_bRow hD t0 t1 u) (vOk_bRow hD t0 t1 w) e
  rw [← sv_row hD t0 t1 u ho, this, sv_row hD t0 t1 w ho]
theorem act_mm (hD : D = 2 ∨ D = 3) (t0 : 0 ≤ t) (t1 : t ≤ 15) {A B : cMat} (hA : isD D A) (hB : isD D B) (hAB : isD D (mm A B)) (w : Nat → cF) {o : Nat} (ho : o < (mMany D t).toNat) : act D B t (act D A t w) o = act D (mm A B) t w o := by
  refine row_inj hD t0 t1 ?_ ho
  rw [act_P hD t0 t1 hB, act_P hD t0 t1 hA, mvP_mvP, act_P hD t0 t1 hAB]
theorem act_congr {A : cMat} {u w : Nat → cF} (h : ∀ k, k < (mMany D t).toNat → u k = w k) (o : Nat) : act D A t u o = act D A t w o := gs_congr fun k hk => by rw [h k hk]
theorem act_one {A : cMat} {k : Nat} (hk : k < (mMany D t).toNat) (o : Nat) : act D A t (fun j => if j = k then 1 else 0) o = imgM D A t k o := by
  unfold act
  rw [gs_one hk fun j hj ne => by show (if j = k then (1 : cF) else 0) * _ = 0; rw [if_neg ne, gs_z1]]
  show (if k = k then (1 : cF) else 0) * _ = _
  rw [if_pos rfl, gs_z2]
variable {T : Nat → cMat} {nt n : Nat} {L : Nat → cMat}
theorem iV_act {w : Nat → cF} (h : iV D T nt t w) {g : Nat} (hg : g < nt) {o : Nat} (ho : o < (mMany D t).toNat) : act D (T g) t w o = w o := h g hg o ho
theorem iV_mem (hD : D = 2 ∨ D = 3) (t0 : 0 ≤ t) (t1 : t ≤ 15) (G : isG T nt n L) (hL : ∀ k, k < n → isD D (L k)) (hTD : ∀ g, g < nt → isD D (T g)) {w : Nat → cF} (h : iV D T nt t w) : ∀ k : Nat, k < n → ∀ o, o < (mMany D t).toNat → act D (L k) t w o = w o := by
  intro k
  induction k using Nat.strongRecOn with
  | ind k ih =>
    intro hk o ho
    by_cases k0 : k = 0
    · refine row_inj hD t0 t1 ?_ ho
      rw [act_P hD t0 t1 (hL k hk), k0, G.2.2.1, mvP_id]
    · obtain ⟨c, b, x1, x2, x3⟩ := G.2.2.2.2.2.1 k (by omega) hk
      have hk' := hL k hk
      rw [x3] at hk' ⊢
      rw [← act_mm hD t0 t1 (hL c (by omega)) (hTD b x2) hk' w ho, act_congr fun j hj => ih c x1 (by omega) j hj]
      exact iV_act h x2 ho
/-- the mean of what a monomial is moved to -/
def pjM (D : Int) (L : Nat → cMat) (n : Nat) (t : Int) (k o : Nat) : cF := fInv (toF (n : Int)) * gs n fun g => imgM D (L g) t k o
theorem pj_in (hD : D = 2 ∨ D = 3) (t0 : 0 ≤ t) (t1 : t ≤ 15) (G : isG T nt n L) (Gr : isGrp n (gm n L)) (hL : ∀ k, k < n → isD D (L k)) (hTD : ∀ g, g < nt → isD D (T g)) (hTM : ∀ g, g < nt → isM (T g)) {k : Nat} (hk : k < (mMany D t).toNat) : iV D T nt t (fun o => gs n fun g => imgM D (L g) t k o) := by
  intro g hg o ho
  obtain ⟨m, m1, m2⟩ := G.2.2.2.2.2.2 0 g (by have := G.1; omega) hg
  rw [G.2.2.1, id_mm (hTM g hg)] at m2
  have e1 : (gs (mMany D t).toNat fun j => (gs n fun h => imgM D (L h) t k j) * imgM D (T g) t j o) = gs n fun h => gs (mMany D t).toNat fun j => imgM D (L h) t k j * imgM D (T g) t j o := by
    rw [gs_swap]
    exact gs_congr fun j _ => (gs_mulr n _ _).symm
  have e2 : ∀ h, h < n → (gs (mMany D t).toNat fun j => imgM D (L h) t k j * imgM D (T g) t j o) = (fun s => imgM D (L s) t k o) (gm n L h m) := by
    intro h hh
    obtain ⟨p1, p2⟩ := gm_lt G hh m1
    have e3 : (gs (mMany D t).toNat fun j => imgM D (L h) t k j * imgM D (T g) t j o) = act D (T g) t (act D (L h) t (fun j => if j = k then 1 else 0)) o := gs_congr fun j hj => by rw [act_one hk]
    have hmm : isD D (mm (L h) (T g)) := by
      rw [← m2, ← p2]; exact hL _ p1
    rw [e3, act_mm hD t0 t1 (hL h hh) (hTD g hg) hmm _ ho, act_one hk, ← m2, ← p2]
  rw [e1, gs_congr e2, gs_perm (s := fun h => gm n L h m) (fun i hi => Gr.2.1 _ _ hi m1) (fun i j hi hj e => ig_right Gr m1 hi hj e) (fun s => imgM D (L s) t k o)]
theorem toF_ne {n : Nat} (n1 : 1 ≤ n) (n48 : n ≤ 48) : toF (n : Int) ≠ 0 := fun w => by
  have := (toF_eq (x := (n : Int)) (y := 0)).mp w
  omega
theorem pj_g1 {R : Type} [Lean.Grind.CommRing R] {a b w : R} (h : a * b = 1) : w = b * (a * w) := by
  have : b * (a * w) = (a * b) * w := by grind
  rw [this, h]
  grind
/-- what is left alone is the sum of means -/
theorem pj_sum (hD : D = 2 ∨ D = 3) (t0 : 0 ≤ t) (t1 : t ≤ 15) (G : isG T nt n L) (hL : ∀ k, k < n → isD D (L k)) (hTD : ∀ g, g < nt → isD D (T g)) {w : Nat → cF} (h : iV D T nt t w) {o : Nat} (ho : o < (mMany D t).toNat) : w o = gs (mMany D t).toNat fun k => w k * pjM D L n t k o := by
  have e1 : (gs (mMany D t).toNat fun k => w k * pjM D L n t k o) = fInv (toF (n : Int)) * gs n fun g => act D (L g) t w o := by
    have a : ∀ k, w k * pjM D L n t k o = fInv (toF (n : Int)) * gs n fun g => w k * imgM D (L g) t k o := fun k => by
      unfold pjM
      rw [mo_g1]
      congr 1
      exact (gs_mul n _ _).symm
    rw [gs_congr fun k _ => a k, gs_mul]
    congr 1
    exact gs_swap _ _ _
  rw [e1, gs_congr fun g hg => iV_mem hD t0 t1 G hL hTD h g hg o ho, gs_const]
  have := fInv_mul (toF_ne G.1 G.2.1)
  exact pj_g1 this
/-- the trace of averaging tells how many there are -/
theorem pj_trace {N r : Nat} {hd : Nat → Nat} {B P : Nat → Nat → cF} {V : (Nat → cF) → Prop} (hB : isRB N r hd B V) (h1 : ∀ k, k < N → V (P k)) (h2 : ∀ v, V v → ∀ o, o < N → v o = gs N fun k => v k * P k o) : gs N (fun o => P o o) = toF (r : Int) := by
  obtain ⟨b1, b2, b3, b4, b5, b6, b7⟩ := hB
  have e : ∀ o, o < N → P o o = gs r fun i => P o (hd i) * B i o := fun o ho => b7 (P o) (h1 o ho) o ho
  rw [gs_congr e, gs_swap]
  have e2 : ∀ i, i < r → (gs N fun o => P o (hd i) * B i o) = 1 := by
    intro i hi
    rw [gs_congr fun o _ => ec_g5 (P o (hd i)) (B i o), ← h2 (B i) (b6 i hi) (hd i) (b2 i hi)]
    exact b3 i hi
  rw [gs_congr e2, gs_const, st_g5]
theorem iV_smul {w : Nat → cF} (c : cF) (h : iV D T nt t w) : iV D T nt t (fun o => c * w o) := fun g hg o ho => by
  rw [gs_congr fun k _ => gs_z5 c (w k) (imgM D (T g) t k o), gs_mul, h g hg o ho]
theorem iV_add {u w : Nat → cF} (h : iV D T nt t u) (h' : iV D T nt t w) : iV D T nt t (fun o => u o + w o) := fun g hg o ho => by
  rw [gs_congr fun k _ => gs_z4 (u k) (w k) (imgM D (T g) t k o), gs_add, h g hg o ho, h' g hg o ho]
theorem bs_trace (hD : D = 2 ∨ D = 3) (t0 : 0 ≤ t) (t1 : t ≤ 15) (G : isG T nt n L) (Gr : isGrp n (gm n L)) (hL : ∀ k, k < n → isD D (L k)) (hTD : ∀ g, g < nt → isD D (T g)) (hTM : ∀ g, g < nt → isM (T g)) {r : Nat} {B : Nat → Nat → cF} (hB : isBs D T nt t r B) : fInv (toF (n : Int)) * gs n (fun g => gs (mMany D t).toNat fun o => imgM D (L g) t o o) = toF (r : Int) := by
  obtain ⟨hd, hB⟩ := hB
  rw [← pj_trace (P := pjM D L n t) hB (fun k hk => iV_smul _ (pj_in hD t0 t1 G Gr hL hTD hTM hk)) fun v hv o ho => pj_sum hD t0 t1 G hL hTD hv ho]
  unfold pjM
  rw [gs_mul, gs_swap]
end WPJ
