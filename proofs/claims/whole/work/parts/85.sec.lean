/-! SECONDARY ones are free over the primary ones -/
/-- sums of products of the first J with powers, of degree m: in all that holds these -/
def pSp (t1 t2 t3 : cP) (d1 d2 d3 : Nat) (et : Nat → cP) (de : Nat → Nat) (J m : Nat) (u : cP) : Prop := ∀ W : Nat → cP → Prop, (∀ j, j < J → W (de j) (et j)) → (∀ m u, W m u → W (d1 + m) (cMul t1 u)) → (∀ m u, W m u → W (d2 + m) (cMul t2 u)) → (∀ m u, W m u → W (d3 + m) (cMul t3 u)) → (∀ m u w, W m u → W m w → W m (cAdd u w)) → (∀ m k u, W m u → W m (cS k u)) → (∀ m, W m c0) → W m u
section SEC
variable {t1 t2 t3 : cP} {d1 d2 d3 : Nat} {et : Nat → cP} {de : Nat → Nat}
theorem pSp_gen {J j : Nat} (h : j < J) : pSp t1 t2 t3 d1 d2 d3 et de J (de j) (et j) := fun W g _ _ _ _ _ _ => g j h
theorem pSp_t1 {J m : Nat} {u : cP} (h : pSp t1 t2 t3 d1 d2 d3 et de J m u) : pSp t1 t2 t3 d1 d2 d3 et de J (d1 + m) (cMul t1 u) := fun W g a b c e f z => a m u (h W g a b c e f z)
theorem pSp_t2 {J m : Nat} {u : cP} (h : pSp t1 t2 t3 d1 d2 d3 et de J m u) : pSp t1 t2 t3 d1 d2 d3 et de J (d2 + m) (cMul t2 u) := fun W g a b c e f z => b m u (h W g a b c e f z)
theorem pSp_t3 {J m : Nat} {u : cP} (h : pSp t1 t2 t3 d1 d2 d3 et de J m u) : pSp t1 t2 t3 d1 d2 d3 et de J (d3 + m) (cMul t3 u) := fun W g a b c e f z => c m u (h W g a b c e f z)
theorem pSp_add {J m : Nat} {u w : cP} (h : pSp t1 t2 t3 d1 d2 d3 et de J m u) (h' : pSp t1 t2 t3 d1 d2 d3 et de J m w) : pSp t1 t2 t3 d1 d2 d3 et de J m (cAdd u w) := fun W g a b c e f z => e m u w (h W g a b c e f z) (h' W g a b c e f z)
theorem pSp_S {J m : Nat} {u : cP} (k : cF) (h : pSp t1 t2 t3 d1 d2 d3 et de J m u) : pSp t1 t2 t3 d1 d2 d3 et de J m (cS k u) := fun W g a b c e f z => f m k u (h W g a b c e f z)
theorem pSp_0 {J m : Nat} : pSp t1 t2 t3 d1 d2 d3 et de J m c0 := fun W g a b c e f z => z m
theorem pSp_Sm {J m : Nat} : ∀ (n : Nat) (F : Nat → cP), (∀ i, i < n → pSp t1 t2 t3 d1 d2 d3 et de J m (F i)) → pSp t1 t2 t3 d1 d2 d3 et de J m (cSm n F) := by
  intro n
  induction n with
  | zero => intro F _; exact pSp_0
  | succ n ih => intro F h; exact pSp_add (ih F fun i hi => h i (by omega)) (h n (by omega))
/-- below the degree of the j-th only those ahead of it play a part -/
theorem pSp_low {s j m : Nat} (ord : ∀ a b, a ≤ b → b < s → de a ≤ de b) (hj : j < s) {u : cP} (h : pSp t1 t2 t3 d1 d2 d3 et de s m u) (lt : m < de j) : pSp t1 t2 t3 d1 d2 d3 et de j m u := by
  refine h (fun m u => m < de j → pSp t1 t2 t3 d1 d2 d3 et de j m u) (fun i hi l => pSp_gen ?_) (fun m u w l => pSp_t1 (w (by omega))) (fun m u w l => pSp_t2 (w (by omega))) (fun m u w l => pSp_t3 (w (by omega))) (fun m u w a b l => pSp_add (a l) (b l)) (fun m k u a l => pSp_S k (a l)) (fun m _ => pSp_0) lt
  apply Classical.byContradiction
  intro q
  have := ord j i (by omega) hi
  omega
theorem hc_add (m : Nat) (P Q : cP) : hc m (cAdd P Q) = cAdd (hc m P) (hc m Q) := by
  funext a b c
  show (if a + b + c = m then P a b c + Q a b c else 0) = (if a + b + c = m then P a b c else 0) + (if a + b + c = m then Q a b c else 0)
  by_cases q : a + b + c = m
  · rw [if_pos q, if_pos q, if_pos q]
  · rw [if_neg q, if_neg q, if_neg q]
    exact (Lean.Grind.Semiring.add_zero (0 : cF)).symm
theorem hc_part {d : Nat} {t : cP} (ht : hom d t) (P : cP) (m : Nat) : ∃ Q, hc m (cMul t P) = cMul t Q ∧ ((m < d ∧ Q = c0) ∨ (d ≤ m ∧ Q = hc (m - d) P)) := by
  by_cases q : m < d
  · refine ⟨c0, ?_, Or.inl ⟨q, rfl⟩⟩
    rw [hc_low ht P q, c0_eq]
    exact (@Lean.Grind.Semiring.mul_zero cP cPr.toRing.toSemiring t).symm
  · refine ⟨hc (m - d) P, ?_, Or.inr ⟨by omega, rfl⟩⟩
    have := hc_mul ht P (m - d)
    rw [show d + (m - d) = m by omega] at this
    exact this
theorem hc_in {u : cP} (h1 : hom d1 t1) (h2 : hom d2 t2) (h3 : hom d3 t3) (h : inI t1 t2 t3 u) (m : Nat) : inI t1 t2 t3 (hc m u) := by
  obtain ⟨a, b, c, e⟩ := h
  obtain ⟨a', ea, _⟩ := hc_part h1 a m
  obtain ⟨b', eb, _⟩ := hc_part h2 b m
  obtain ⟨c', ec, _⟩ := hc_part h3 c m
  exact ⟨a', b', c', by rw [e, hc_add, hc_add, ea, eb, ec]⟩
theorem hc_Sm (m s : Nat) (e : Nat → cF) (he : ∀ j, j < s → hom (de j) (et j)) : hc m (cSm s fun j => cS (e j) (et j)) = cSm s fun j => cS (if de j = m then e j else 0) (et j) := by
  funext a b c
  show (if a + b + c = m then gs s (fun j => e j * et j a b c) else 0) = gs s fun j => (if de j = m then e j else 0) * et j a b c
  by_cases q : a + b + c = m
  · rw [if_pos q]
    refine gs_congr fun j hj => ?_
    by_cases r : de j = m
    · rw [if_pos r]
    · rw [if_neg r, he j hj a b c (by omega), gs_z3, gs_z3]
  · rw [if_neg q]
    refine (gs_zero fun j hj => ?_).symm
    by_cases r : de j = m
    · rw [he j hj a b c (by omega), gs_z3]
    · rw [if_neg r, gs_z1]
theorem sc_g1 {R : Type} [Lean.Grind.CommRing R] {x k e s u : R} (h : k * e = 1) (hu : s + e * x = u) : x = k * (u + (-1) * s) := by
  have : k * (u + (-1) * s) = k * e * x := by rw [← hu]; grind
  rw [this, h]
  grind
theorem sec_free {T : Nat → cMat} {nt n : Nat} {L : Nat → cMat} (G : isG T nt n L) (hT : ∀ t, t < nt → mDet (T t) ≠ 0) (i1 : InvP T nt t1) (i2 : InvP T nt t2) (i3 : InvP T nt t3) (h1 : hom d1 t1) (h2 : hom d2 t2) (h3 : hom d3 t3) (p1 : 1 ≤ d1) (p2 : 1 ≤ d2) (p3 : 1 ≤ d3) {s top : Nat} (ie : ∀ j, j < s → InvP T nt (et j)) (he : ∀ j, j < s → hom (de j) (et j)) (hd : ∀ j, j < s → de j ≤ top) (ord : ∀ a b, a ≤ b → b < s → de a ≤ de b) (cpl : ∀ m u, m ≤ top → InvP T nt u → hom m u → pSp t1 t2 t3 d1 d2 d3 et de s m u) (mn : ∀ j, j < s → ¬ pSp t1 t2 t3 d1 d2 d3 et de j (de j) (et j)) (e : Nat → cF) (hI : inI t1 t2 t3 (cSm s fun j => cS (e j) (et j))) : ∀ j, j < s → e j = 0 := by
  intro j0 hj0
  apply Classical.byContradiction
  intro ne
  -- the last of that degree
  have last : ∃ j, j < s ∧ de j = de j0 ∧ e j ≠ 0 ∧ ∀ i, j < i → i < s → de i = de j0 → e i = 0 := by
    have key : ∀ k, (∃ j, j < s ∧ s ≤ j + k ∧ de j = de j0 ∧ e j ≠ 0) → ∃ j, j < s ∧ de j = de j0 ∧ e j ≠ 0 ∧ ∀ i, j < i → i < s → de i = de j0 → e i = 0 := by
      intro k
      induction k with
      | zero => rintro ⟨j, a, b, _⟩; omega
      | succ k ih =>
        rintro ⟨j, a, b, c, f⟩
        by_cases q : ∃ j', j' < s ∧ s ≤ j' + k ∧ de j' = de j0 ∧ e j' ≠ 0
        · exact ih q
        · exact ⟨j, a, c, f, fun i h1 h2 h3 => Classical.byContradiction fun w => q ⟨i, h2, by omega, h3, w⟩⟩
    exact key s ⟨j0, hj0, by omega, rfl, ne⟩
  obtain ⟨j, hj, dj, ej, lst⟩ := last
  generalize hm : de j0 = m at dj lst
  -- the part of degree m
  have hu := hc_in h1 h2 h3 hI m
  rw [hc_Sm m s e he] at hu
  generalize hU : (cSm s fun j => cS (if de j = m then e j else 0) (et j)) = u at hu
  have iu : InvP T nt u := by
    intro t ht
    rw [← hU, mvP_Sm]
    funext a b c
    refine gs_congr fun i hi => ?_
    show mvP (T t) (cS (if de i = m then e i else 0) (et i)) a b c = cS (if de i = m then e i else 0) (et i) a b c
    rw [mvP_S, ie i hi t ht]
  have hmu : hc m u = u := by
    refine hc_self fun a b c q => ?_
    rw [← hU]
    show gs s (fun j => (if de j = m then e j else 0) * et j a b c) = 0
    refine gs_zero fun i hi => ?_
    by_cases r : de i = m
    · rw [he i hi a b c (by omega), gs_z3]
    · rw [if_neg r, gs_z1]
  obtain ⟨a, b, c, ia, ib, ic, eu⟩ := inv_ideal G hT i1 i2 i3 iu hu
  have part : ∀ (t : cP) (d : Nat) (x : cP), hom d t → 1 ≤ d → InvP T nt x → (∀ m' w, pSp t1 t2 t3 d1 d2 d3 et de j m' w → pSp t1 t2 t3 d1 d2 d3 et de j (d + m') (cMul t w)) → pSp t1 t2 t3 d1 d2 d3 et de j m (hc m (cMul t x)) := by
    intro t d x ht pd ix cl
    obtain ⟨Q, eQ, alt⟩ := hc_part ht x m
    rw [eQ]
    rcases alt with ⟨l, z⟩ | ⟨l, z⟩
    · rw [z]
      have : cMul t c0 = c0 := by
        rw [c0_eq]
        exact @Lean.Grind.Semiring.mul_zero cP cPr.toRing.toSemiring t
      rw [this]
      exact pSp_0
    · have dle := hd j hj
      have := cl (m - d) Q (pSp_low ord hj (cpl (m - d) Q (by omega) (by rw [z]; exact inv_hc ix _) (by rw [z]; exact hom_hc _ _)) (by omega))
      rw [show d + (m - d) = m by omega] at this
      exact this
  have pu : pSp t1 t2 t3 d1 d2 d3 et de j m u := by
    rw [← hmu, eu, hc_add, hc_add]
    exact pSp_add (pSp_add (part t1 d1 a h1 p1 ia fun m' w h => pSp_t1 h) (part t2 d2 b h2 p2 ib fun m' w h => pSp_t2 h)) (part t3 d3 c h3 p3 ic fun m' w h => pSp_t3 h)
  -- what stands ahead of the j-th
  have pl : pSp t1 t2 t3 d1 d2 d3 et de j m (cSm j fun i => cS (if de i = m then e i else 0) (et i)) := by
    refine pSp_Sm j _ fun i hi => ?_
    by_cases r : de i = m
    · rw [if_pos r]
      have := pSp_S (e i) (pSp_gen (t1 := t1) (t2 := t2) (t3 := t3) (d1 := d1) (d2 := d2) (d3 := d3) (et := et) (de := de) hi)
      rw [r] at this
      exact this
    · rw [if_neg r]
      have : cS 0 (et i) = c0 := by
        funext x y w
        exact gs_z1 _
      rw [this]
      exact pSp_0
  apply mn j hj
  have fin : et j = cS (fInv (e j)) (cAdd u (cS (-1) (cSm j fun i => cS (if de i = m then e i else 0) (et i)))) := by
    funext x y w
    show et j x y w = fInv (e j) * (u x y w + (-1) * gs j (fun i => (if de i = m then e i else 0) * et i x y w))
    refine sc_g1 (e := e j) (by rw [el_g4]; exact fInv_mul ej) ?_
    rw [← hU]
    show _ = gs s (fun i => (if de i = m then e i else 0) * et i x y w)
    have e1 : gs s (fun i => (if de i = m then e i else 0) * et i x y w) = gs (j + 1) (fun i => (if de i = m then e i else 0) * et i x y w) := gs_ext (by omega) fun i h1 h2 => by
      by_cases r : de i = m
      · rw [if_pos r, lst i (by omega) h2 r, gs_z1]
      · rw [if_neg r, gs_z1]
    rw [e1, gs, if_pos dj]
  rw [fin, dj]
  exact pSp_S _ (pSp_add pu (pSp_S _ pl))
end SEC
