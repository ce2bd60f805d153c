/-! THE third variable, where there are two -/
/-- with two variables the third is moved to itself -/
def isZ (D : Int) (A : cMat) : Prop := D = 2 → (A 0 2 = 0 ∧ A 1 2 = 0) ∧ A 2 0 = 0 ∧ A 2 1 = 0 ∧ A 2 2 = 1
theorem isZ_mat (D : Int) (f : Int → Int) (g : Int) : isZ D (mat D f g) := by
  intro e
  unfold mat
  rw [e]
  exact ⟨⟨rfl, rfl⟩, rfl, rfl, rfl⟩
theorem isZ_D {D : Int} {A : cMat} (h : isZ D A) : isD D A := fun e => (h e).1
theorem mv_zs1 {A : cMat} (h : isZ 2 A) : mvP A (zs 1) = zs 1 := by
  obtain ⟨-, h0, h1, h2⟩ := h rfl
  rw [mvP_z, linP_congr (m := mId 2) h0 h1 h2, ← mvP_z, mvP_id]
theorem zs_0 : zs 0 = cOne := rfl
theorem mv_zs {A : cMat} (h : isZ 2 A) (k : Nat) : mvP A (zs k) = zs k := by
  induction k with
  | zero => rw [zs_0, mvP_one]
  | succ k ih => rw [zs_pow, mvP_mul, mv_zs1 h, ih]
/-- the part with the third variable's power k, without it -/
def sv_k (k : Nat) (u : cP) : cP := fun a b c => if c = 0 then u a b k else 0
theorem sv_split {m : Nat} {u : cP} (h : hom m u) : u = cSm (m + 1) fun k => cMul (zs k) (sv_k k u) := by
  funext a b c
  show u a b c = gs (m + 1) fun k => cMul (zs k) (sv_k k u) a b c
  by_cases q : c ≤ m
  · rw [gs_one (k := c) (by omega)]
    · rw [zs_mul, if_pos (Nat.le_refl c), sv_k, if_pos (Nat.sub_self c)]
    · intro k _ hk
      rw [zs_mul]
      by_cases r : k ≤ c
      · rw [if_pos r, sv_k, if_neg (by omega)]
      · rw [if_neg r]
  · rw [h a b c (by omega), gs_zero]
    intro k hk
    rw [zs_mul, if_pos (by omega), sv_k, if_neg (by omega)]
theorem sv_free {A : cMat} (h : isZ 2 A) {u : cP} (hu : ∀ a b c, c ≠ 0 → u a b c = 0) : ∀ a b c, c ≠ 0 → mvP A u a b c = 0 := by
  obtain ⟨⟨h0, h1⟩, -⟩ := h rfl
  intro a b c hc
  refine gs_zero fun i _ => gs_zero fun j _ => gs_zero fun k _ => ?_
  show u i j k * mono A i j k a b c = 0
  by_cases e : k = 0
  · subst e
    rw [mono_z h0 h1 i j a b c hc, gs_z3]
  · rw [hu i j k e, gs_z1]
theorem sv_kz (k : Nat) (u : cP) : ∀ a b c, c ≠ 0 → sv_k k u a b c = 0 := fun a b c hc => if_neg hc
theorem sv_kinv {A : cMat} (h : isZ 2 A) {m : Nat} {u : cP} (hm : hom m u) (hu : mvP A u = u) {k : Nat} (hk : k ≤ m) : mvP A (sv_k k u) = sv_k k u := by
  have e1 : u = cSm (m + 1) fun k => cMul (zs k) (mvP A (sv_k k u)) := by
    have := congrArg (mvP A) (sv_split hm)
    rw [hu, mvP_Sm] at this
    refine this.trans ?_
    congr 1
    funext k
    rw [mvP_mul, mv_zs h]
  funext a b c
  by_cases hc : c = 0
  · subst hc
    have e2 := congrFun (congrFun (congrFun e1 a) b) k
    have e3 : (cSm (m + 1) fun k => cMul (zs k) (mvP A (sv_k k u))) a b k = mvP A (sv_k k u) a b 0 := by
      show gs (m + 1) (fun k' => cMul (zs k') (mvP A (sv_k k' u)) a b k) = _
      rw [gs_one (k := k) (by omega)]
      · rw [zs_mul, if_pos (Nat.le_refl k), Nat.sub_self]
      · intro k' _ hk'
        rw [zs_mul]
        by_cases r : k' ≤ k
        · rw [if_pos r, sv_free h (sv_kz k' u) _ _ _ (by omega)]
        · rw [if_neg r]
    rw [← e3, ← e2]
    exact (if_pos rfl).symm
  · rw [sv_free h (sv_kz k u) a b c hc, sv_kz k u a b c hc]
theorem sv_khom {m k : Nat} {u : cP} (h : hom m u) (hk : k ≤ m) : sv_z 2 (m - k) (sv_k k u) := by
  refine ⟨fun a b c hc => ?_, fun _ => sv_kz k u⟩
  unfold sv_k
  by_cases e : c = 0
  · rw [if_pos e, h a b k (by omega)]
  · rw [if_neg e]
/-- sums of rows -/
theorem sv_zsum {D : Int} {m n : Nat} {F : Nat → cP} (h : ∀ i, i < n → sv_z D m (F i)) : sv_z D m (cSm n F) :=
  ⟨fun a b c hc => gs_zero fun i hi => (h i hi).1 a b c hc, fun e a b c hc => gs_zero fun i hi => (h i hi).2 e a b c hc⟩
theorem sv_zS {D : Int} {m : Nat} {u : cP} (x : cF) (h : sv_z D m u) : sv_z D m (cS x u) :=
  ⟨fun a b c hc => by show x * u a b c = 0; rw [h.1 a b c hc, gs_z3], fun e a b c hc => by show x * u a b c = 0; rw [h.2 e a b c hc, gs_z3]⟩
/-- one left alone is a sum of rows of the base -/
theorem sv_base {D : Int} (hD : D = 2 ∨ D = 3) {T : Nat → cMat} {nt : Nat} (hT : ∀ t, t < nt → isD D (T t)) {t : Nat} (t1 : t ≤ 15) {r : Nat} {B : Nat → Nat → cF} (hB : isBs D T nt t r B) {u : cP} (hu : sv_z D t u) (hi : InvP T nt u) : ∃ c : Nat → cF, u = cSm r fun i => cS (c i) (toP D (bRow D t (B i))) := by
  have ok : vOk D (bRow D t (sv_c D t u)) := vOk_bRow hD (by omega) (by omega) _
  have iv : iV D T nt t (sv_c D t u) := by
    refine (iV_inv hD (by omega) (by omega) T nt _).mpr ((isInv_iff hD hT ok).mpr ?_)
    rw [sv_back hD t1 hu]
    exact hi
  obtain ⟨h, a1, a2, a3, a4, a5, a6, a7⟩ := hB
  refine ⟨fun i => sv_c D t u (h i), sv_ext hD t1 hu (sv_zsum fun i _ => sv_zS _ (sv_zrow hD t1 _)) fun k hk => ?_⟩
  rw [a7 _ iv k hk]
  show _ = gs r fun i => sv_c D t u (h i) * sv_c D t (toP D (bRow D t (B i))) k
  exact gs_congr fun i _ => by rw [sv_crow hD t1 _ hk]
/-- rows of the base are left alone -/
theorem sv_binv {D : Int} (hD : D = 2 ∨ D = 3) {T : Nat → cMat} {nt : Nat} (hT : ∀ t, t < nt → isD D (T t)) {t : Nat} (t1 : t ≤ 15) {r : Nat} {B : Nat → Nat → cF} (hB : isBs D T nt t r B) {i : Nat} (hi : i < r) : InvP T nt (toP D (bRow D t (B i))) := by
  obtain ⟨h, a1, a2, a3, a4, a5, a6, a7⟩ := hB
  exact (isInv_iff hD hT (vOk_bRow hD (by omega) (by omega) _)).mp ((iV_inv hD (by omega) (by omega) T nt _).mp (a6 i hi))
