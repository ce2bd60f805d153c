/-! rows in steps: independent, and a base once they are as many -/
theorem ec_ind {n r q : Nat} {p : Nat → Nat} {J : cm_I} (h : ecS n r p q J) : rInd n r (ecM J q n) := by
  obtain ⟨s1, s2, s3, s4, s5, s6⟩ := id h
  intro c hc
  have key : ∀ (m i : Nat), i < r → p i = m → c i = 0 := by
    intro m
    induction m using Nat.strongRecOn with
    | _ m ih =>
      intro i hi em
      have := hc (p i) (s4 i hi).1
      unfold lc at this
      rw [gs_one (k := i) hi fun j hj ne => ?_, (s6 i hi).1] at this
      · rw [← this]
        exact (el_g4 _ _).trans (gs_z2 _) |>.symm
      · rcases Nat.lt_trichotomy (p j) (p i) with w | w | w
        · rw [ih (p j) (by omega) j hj rfl, gs_z1]
        · exact absurd (ec_p h hj hi w) ne
        · rw [(s6 j hj).2 (p i) w, gs_z3]
  exact fun i hi => key (p i) i hi rfl
theorem ind_ext {n r : Nat} {M : Nat → Nat → cF} {v : Nat → cF} (hi : rInd n r M) (q : ¬ inS n r M v) : rInd n (r + 1) (fun i => if i = r then v else M i) := by
  intro c hc
  have e : ∀ k, lc (r + 1) c (fun i => if i = r then v else M i) k = lc r c M k + c r * v k := by
    intro k
    show gs r (fun i => c i * (if i = r then v else M i) k) + c r * (if r = r then v else M r) k = _
    rw [if_pos rfl]
    have : gs r (fun i => c i * (if i = r then v else M i) k) = lc r c M k := gs_congr fun i hi => by rw [if_neg (by omega)]
    rw [this]
  have c0 : c r = 0 := by
    apply Classical.byContradiction
    intro nz
    apply q
    refine inS_congr (inS_smul (- fInv (c r)) ⟨c, fun k _ => rfl⟩) fun k hk => ?_
    have := hc k hk
    rw [e k] at this
    exact rk_g1 this (fInv_mul nz)
  intro i hi2
  by_cases w : i = r
  · rw [w]; exact c0
  · refine hi c (fun k hk => ?_) i (by omega)
    have := hc k hk
    rw [e k, c0, gs_z1] at this
    rw [← this]
    exact (Lean.Grind.Semiring.add_zero _).symm
theorem ind_full {n r : Nat} {M B : Nat → Nat → cF} (hM : rInd n r M) (hs : ∀ i, i < r → inS n r B (M i)) {v : Nat → cF} (hv : inS n r B v) : inS n r M v := by
  apply Classical.byContradiction
  intro q
  have := ind_span (ind_ext hM q) (r := r) (M' := B) fun i hi => by
    by_cases e : i = r
    · rw [if_pos e]; exact hv
    · rw [if_neg e]; exact hs i (by omega)
  omega
theorem rb_ind {n r : Nat} {h : Nat → Nat} {B : Nat → Nat → cF} {V : (Nat → cF) → Prop} (a : isRB n r h B V) : rInd n r B := by
  obtain ⟨a1, a2, a3, a4, a5, a6, a7⟩ := a
  intro c hc i hi
  have := hc (h i) (a2 i hi)
  unfold lc at this
  rw [gs_one (k := i) hi fun j hj ne => by rw [a4 j i hj hi ne, gs_z3], a3 i hi] at this
  rw [← this]
  exact (el_g4 _ _).trans (gs_z2 _) |>.symm
theorem rb_in {n r : Nat} {h : Nat → Nat} {B : Nat → Nat → cF} {V : (Nat → cF) → Prop} (a : isRB n r h B V) {v : Nat → cF} (hv : V v) : inS n r B v := ⟨fun i => v (h i), fun k hk => a.2.2.2.2.2.2 v hv k hk⟩
/-- finished rows, by their first columns, are the base -/
theorem ec_RB {n r q : Nat} {p : Nat → Nat} {J : cm_I} {V : (Nat → cF) → Prop} (h : ecF n r p q J) (hV : ∀ i, i < r → V (ecM J q n i)) (hs : ∀ v, V v → inS n r (ecM J q n) v) {σ hd : Nat → Nat} (t1 : ∀ i, i < r → hd i < n ∧ σ i < r ∧ p (σ i) = hd i) (t2 : ∀ i j, i < j → j < r → hd i < hd j) : isRB n r hd (fun s k => ecM J q n (σ s) k) V := by
  obtain ⟨⟨s1, s2, s3, s4, s5, s6⟩, s7⟩ := id h
  have inj : ∀ i j, i < r → j < r → σ i = σ j → i = j := by
    intro i j hi hj e
    have ei := (t1 i hi).2.2
    have ej := (t1 j hj).2.2
    rw [e] at ei
    rcases Nat.lt_trichotomy i j with w | w | w
    · have := t2 i j w hj; omega
    · exact w
    · have := t2 j i w hi; omega
  refine ⟨t2, fun i hi => (t1 i hi).1, fun i hi => ?_, fun i j hi hj ne => ?_, fun i c hi hc => ?_, fun i hi => hV _ (t1 i hi).2.1, fun v hv k hk => ?_⟩
  · show ecM J q n (σ i) (hd i) = 1
    rw [← (t1 i hi).2.2]
    exact (s6 _ (t1 i hi).2.1).1
  · show ecM J q n (σ i) (hd j) = 0
    rw [← (t1 j hj).2.2]
    exact s7 _ _ (t1 i hi).2.1 (t1 j hj).2.1 fun e => ne (inj i j hi hj e)
  · exact (s6 _ (t1 i hi).2.1).2 c (by rw [(t1 i hi).2.2]; exact hc)
  · obtain ⟨l, hl⟩ := hs v hv
    have vl : ∀ j, j < r → v (p j) = l j := by
      intro j hj
      rw [hl (p j) (s4 j hj).1]
      unfold lc
      rw [gs_one (k := j) hj fun i hi ne => by rw [s7 i j hi hj ne, gs_z3], (s6 j hj).1]
      exact (el_g4 _ _).trans (gs_z2 _)
    rw [hl k hk]
    unfold lc
    rw [← gs_perm (fun i hi => (t1 i hi).2.1) inj]
    refine gs_congr fun s hs => ?_
    rw [← (t1 s hs).2.2, vl _ (t1 s hs).2.1]
