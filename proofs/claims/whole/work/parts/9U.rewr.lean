/-! REWRITTEN: the factors of products -/
theorem uq_g1 {R : Type} [Lean.Grind.CommRing R] (a b : R) : a - b = a + (-1) * b := by grind
theorem uq_g2 {R : Type} [Lean.Grind.CommRing R] (a : R) : a - a = 0 := by grind
theorem uq_g3 {R : Type} [Lean.Grind.CommRing R] {a b : R} (h : a - b = 0) : a = b := by grind
/-- the factors: products with them are f, degree by degree; nothing elsewhere -/
def rwK (D : Int) (T : Nat → cMat) (nt : Nat) (v : Nat → Int → Int) (dg : Nat → Int) (l : List (Int × Nat)) (f : Int → Int) (q : tup4 → cF) : Prop := (∀ t : Nat, t ≤ 15 → ∀ k : Nat, k < (mMany D t).toNat → toF (f (mFrom D t + k)) = lc (sx_X D dg l t).length (fun i => q (sx_at4 (sx_X D dg l t) i)) (sx_w D T nt v dg l t) k) ∧ ∀ x, (¬ ∃ t : Nat, t ≤ 15 ∧ x ∈ sx_X D dg l t) → q x = 0
noncomputable def rwX (D : Int) (T : Nat → cMat) (nt : Nat) (v : Nat → Int → Int) (dg : Nat → Int) (l : List (Int × Nat)) (f : Int → Int) : tup4 → cF := @dite (tup4 → cF) (∃ q, rwK D T nt v dg l f q) (Classical.propDecidable _) (fun h => Classical.choose h) (fun _ _ => 0)
section RW
variable {D : Int} {T : Nat → cMat} {nt n : Nat} {L : Nat → cMat} {v : Nat → Int → Int} {dg : Nat → Int}
theorem rwX_ok {l : List (Int × Nat)} {f : Int → Int} {q : tup4 → cF} (h : rwK D T nt v dg l f q) : rwK D T nt v dg l f (rwX D T nt v dg l f) := by
  unfold rwX
  rw [dif_pos ⟨q, h⟩]
  exact Classical.choose_spec (p := fun q => rwK D T nt v dg l f q) ⟨q, h⟩
/-- products have one degree -/
theorem sx_Xdeg (S : sx_S D T nt n L v dg) {l : List (Int × Nat)} (hl : sx_L D T nt l) {t t' : Nat} {x : tup4} (h : x ∈ sx_X D dg l t) (h' : x ∈ sx_X D dg l t') : t = t' := by
  have a := (sx_Xok S hl h).2.2.2.2.2.2
  have b := (sx_Xok S hl h').2.2.2.2.2.2
  omega
theorem lc_ne {n : Nat} {a b : Nat → cF} {w : Nat → Nat → cF} {k : Nat} (h : lc n a w k = lc n b w k) : lc n (fun i => a i - b i) w k = 0 := by
  have e : lc n (fun i => a i - b i) w k = lc n a w k - lc n b w k := by
    have e1 : (fun i => a i - b i) = fun i => a i + (-1) * b i := by funext i; exact uq_g1 _ _
    rw [e1, lc_add, lc_smul]
    exact (uq_g1 _ _).symm
  rw [e, h]
  exact uq_g2 _
theorem rwK_uniq (S : sx_S D T nt n L v dg) {l : List (Int × Nat)} (hl : sx_L D T nt l) (hE : ∀ e : Nat → cF, inI (toP D (v 0)) (toP D (v 1)) (th3 D v) (cSm l.length fun j => cS (e j) (sx_e D T nt l j)) → ∀ j, j < l.length → e j = 0) {f : Int → Int} {q q' : tup4 → cF} (h : rwK D T nt v dg l f q) (h' : rwK D T nt v dg l f q') : q = q' := by
  funext x
  by_cases hx : ∃ t : Nat, t ≤ 15 ∧ x ∈ sx_X D dg l t
  · obtain ⟨t, t1, hx⟩ := hx
    obtain ⟨i, hi, ei⟩ := sx_at4_ex hx
    have := sx_ind S hl hE t1 (fun i => q (sx_at4 (sx_X D dg l t) i) - q' (sx_at4 (sx_X D dg l t) i)) (fun k hk => lc_ne ((h.1 t t1 k hk).symm.trans (h'.1 t t1 k hk))) i hi
    rw [ei] at this
    exact uq_g3 this
  · rw [h.2 x hx, h'.2 x hx]
/-- what is left alone can be rewritten -/
theorem rw_ex (S : sx_S D T nt n L v dg) {f : Int → Int} (hf : vOk D f) (hi : isInv D T nt f) : ∃ q, rwK D T nt v dg (seAll D T nt v dg 16) f q := by
  have hD := S.1
  have ok := seAll_ok (D := D) (T := T) (nt := nt) (v := v) (dg := dg) 16 (Nat.le_refl _)
  have hl := ok.1.1
  have iv := (isInv_iff hD (sx_T S) hf).mp hi
  have one : ∀ t : Nat, t ≤ 15 → ∃ c : Nat → cF, ∀ k : Nat, k < (mMany D t).toNat → toF (f (mFrom D t + k)) = lc (sx_X D dg (seAll D T nt v dg 16) t).length c (sx_w D T nt v dg (seAll D T nt v dg 16) t) k := by
    intro t t1
    have fb := from_bds hD (t := (t : Int)) (by omega) (by omega)
    obtain ⟨c, hc'⟩ := sx_span S hl (sx_cpl S (Nat.le_refl 16) ok.1.2.2.2.2.1 (m := t) (by omega) (inv_hc iv t) (hom_hc t _)) t1
    refine ⟨c, fun k hk => ?_⟩
    rw [← hc' k hk]
    obtain ⟨d0, d1, d2⟩ := sv_dg hD (t := (t : Int)) (by omega) (by omega) (K := mFrom D t + k) (by omega) (by omega)
    unfold sv_c atE hc
    unfold mDg mEa mEb mEc at d0
    rw [if_pos (by omega), toP_at hD _ d1 d2 (by unfold mDg mEa mEb mEc; omega)]
  have ex : ∃ c : Nat → Nat → cF, ∀ t : Nat, t ≤ 15 → ∀ k : Nat, k < (mMany D t).toNat → toF (f (mFrom D t + k)) = lc (sx_X D dg (seAll D T nt v dg 16) t).length (c t) (sx_w D T nt v dg (seAll D T nt v dg 16) t) k := by
    refine ⟨fun t => @dite (Nat → cF) (t ≤ 15) (Nat.decLe t 15) (fun h => Classical.choose (one t h)) (fun _ _ => 0), fun t h k hk => ?_⟩
    have := Classical.choose_spec (one t h) k hk
    show _ = lc _ (@dite (Nat → cF) (t ≤ 15) (Nat.decLe t 15) _ _) _ k
    rw [dif_pos h]
    exact this
  obtain ⟨c, hc⟩ := ex
  refine ⟨fun x => gs 16 fun t => gs (sx_X D dg (seAll D T nt v dg 16) t).length fun i => if sx_at4 (sx_X D dg (seAll D T nt v dg 16) t) i = x then c t i else 0, fun t t1 k hk => ?_, fun x hx => ?_⟩
  · rw [hc t t1 k hk]
    refine lc_congr (fun i hi => ?_) fun _ _ => rfl
    have nd : List.Pairwise (· ≠ ·) (sx_X D dg (seAll D T nt v dg 16) t) := tJ_nd S.2.2.2.2.2.1 _ _
    show c t i = gs 16 fun t' => gs (sx_X D dg (seAll D T nt v dg 16) t').length fun i' => if sx_at4 (sx_X D dg (seAll D T nt v dg 16) t') i' = sx_at4 (sx_X D dg (seAll D T nt v dg 16) t) i then c t' i' else 0
    rw [gs_one (k := t) (by omega) fun t' _ ne => gs_zero fun i' hi' => if_neg fun e => ne (sx_Xdeg S hl (by rw [← e]; exact (sx_at4_mem hi').1) (sx_at4_mem hi).1)]
    rw [gs_one (k := i) hi fun i' hi' ne => if_neg fun e => ne (sx_at4_inj nd hi' hi e), if_pos rfl]
  · refine gs_zero fun t ht => gs_zero fun i hi => if_neg fun e => hx ⟨t, by omega, ?_⟩
    rw [← e]
    exact (sx_at4_mem hi).1
theorem rw_ok (S : sx_S D T nt n L v dg) {f : Int → Int} (hf : vOk D f) (hi : isInv D T nt f) : rwK D T nt v dg (seAll D T nt v dg 16) f (rwX D T nt v dg (seAll D T nt v dg 16) f) := by
  obtain ⟨q, hq⟩ := rw_ex S hf hi
  exact rwX_ok hq
theorem rw_is (S : sx_S D T nt n L v dg) {f : Int → Int} {q : tup4 → cF} (h : rwK D T nt v dg (seAll D T nt v dg 16) f q) : q = rwX D T nt v dg (seAll D T nt v dg 16) f := by
  have ok := seAll_ok (D := D) (T := T) (nt := nt) (v := v) (dg := dg) 16 (Nat.le_refl _)
  exact rwK_uniq S ok.1.1 (sx_hE S (Nat.le_refl 16) ok.1 ok.2) h (rwX_ok h)
end RW
/-! THE SOLUTION by rows taken from rows -/
theorem row_rel {m n : Nat} {M : Nat → Nat → cF} {u : Nat → cF} (hn : n ≤ 160) {c : Nat → cF} (h : ∀ q, q < m → gs n (fun p => M q p * c p) = 0) (hu : inS 160 m M u) : gs n (fun p => u p * c p) = 0 := by
  obtain ⟨e, he⟩ := hu
  rw [gs_congr fun p hp => by rw [he p (by omega)], dot_lc]
  exact gs_zero fun q hq => by rw [h q hq, gs_z3]
/-- all columns have their row, one by one: the last column tells the factors -/
theorem solve_at {m n done : Nat} {M M' : Nat → Nat → cF} {p : Nat → Nat} (hn : n + 1 ≤ 160) (hs : gSt m n done M' p) (sp : spn m M M') (ind : ∀ c : Nat → cF, (∀ q, q < m → gs n (fun k => M q k * c k) = 0) → ∀ k, k < n → c k = 0) {c : Nat → cF} (hc : ∀ q, q < m → M q n = gs n fun k => M q k * c k) : done = n ∧ ∀ i, i < n → p i = i ∧ M' i n = c i := by
  have full : ∀ k, k < n → isPv done p k = true := by
    intro k hk
    apply Classical.byContradiction
    intro h
    have h : isPv done p k = false := by cases e : isPv done p k <;> simp_all
    have fs := free_sol hs hk h
    have z := ind (fvc done M' p k done) (fun q hq => row_rel (by omega) fs (sp.2 q hq)) k hk
    rw [fvc_non done fun r hr => isPv_no h hr, if_pos rfl] at z
    exact f_one_ne z
  have id : ∀ i, i < done → p i = i := by
    intro i
    induction i using Nat.strongRecOn with
    | _ i ih =>
      intro hi
      have h1 : p i < n := hs.2.2.1 i hi
      have ge : i ≤ p i := by
        cases i with
        | zero => exact Nat.zero_le _
        | succ j =>
          have := hs.2.2.2.1 j (j + 1) (by omega) hi
          rw [ih j (by omega) (by omega)] at this
          omega
      apply Classical.byContradiction
      intro ne
      obtain ⟨r, hr, er⟩ := isPv_iff.mp (full i (by omega))
      rcases Nat.lt_trichotomy r i with q | q | q
      · rw [ih r q hr] at er; omega
      · rw [q] at er; exact ne er
      · have := hs.2.2.2.1 i r q hr
        omega
  have dn : done = n := by
    apply Classical.byContradiction
    intro ne
    have := hs.2.1
    obtain ⟨r, hr, er⟩ := isPv_iff.mp (full done (by omega))
    rw [id r hr] at er
    omega
  subst dn
  refine ⟨rfl, fun i hi => ⟨id i hi, ?_⟩⟩
  have rel : ∀ u, inS 160 m M u → u done = gs done fun k => u k * c k := by
    intro u ⟨e, he⟩
    rw [gs_congr fun k hk => by rw [he k (by omega)], dot_lc, he done (by omega)]
    exact gs_congr fun q hq => by rw [hc q hq]
  have im : i < m := by have := hs.1; omega
  rw [rel (M' i) (sp.1 i im), gs_one (k := i) hi fun k hk ne => ?_]
  · have := hs.2.2.2.2.1 i hi
    rw [id i hi] at this
    rw [this, gs_z2]
  · have := hs.2.2.2.2.2.1 i k im hk (fun e => ne e.symm)
    rw [id k hk] at this
    rw [this, gs_z1]
