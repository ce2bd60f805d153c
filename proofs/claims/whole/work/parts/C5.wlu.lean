/-! products as a lower times an upper triangle, columns turned: pure -/
theorem lu_g1 {R : Type} [Lean.Grind.CommRing R] (a x : R) : a + 0 = a + x * 0 + 0 := by grind
theorem lu_g2 {R : Type} [Lean.Grind.CommRing R] (a x : R) : a + x = a + x * 1 + 0 := by grind
theorem lu_g3 {R : Type} [Lean.Grind.CommRing R] (a x y u : R) : a + y = a + x * u + (y - x * u) := by grind
theorem lu_g4 {R : Type} [Lean.Grind.CommRing R] (a : R) : a = a + 0 := by grind
theorem lu_g5 {R : Type} [Lean.Grind.CommRing R] (a : R) : a = 0 + a := by grind
theorem lu_g6 {R : Type} [Lean.Grind.CommRing R] (a x y u : R) : a + y = a + x * u + (y - x * u) := by grind
theorem lu_g7 {R : Type} [Lean.Grind.CommRing R] {x y : R} (a b : R) (h : x * y = 1) : a + b = a + x * (b * y) := by grind
theorem lu_g8 {R : Type} [Lean.Grind.CommRing R] (a b : R) : a + b = a + b * 1 := by grind
theorem lu_g9 {R : Type} [Lean.Grind.CommRing R] (a b : R) : a + 0 = a + b * 0 := by grind
def luL (A : Nat → Nat → cF) (k j : Nat) : cF := if j ≤ k then A k j else 0
def luU (A : Nat → Nat → cF) (j c : Nat) : cF := if c = j then 1 else if j < c then A j c else 0
def luOk (s m : Nat) (A : Nat → Nat → cF) (o : Nat → Nat) (C : Nat → Nat → cF) : Prop := m ≤ s ∧ (∀ c, c < s → o c < s) ∧ (∀ a b, a < s → b < s → o a = o b → a = b) ∧ (∀ i, i < m → A i i ≠ 0) ∧ ∀ i c, i < m → c < s → C i (o c) = gs m fun j => luL A i j * luU A j c
/-- the first k columns are cleared -/
def clS (s k : Nat) (A : Nat → Nat → cF) (o : Nat → Nat) (p w : Nat → cF) : Prop := ∀ c, c < s → p (o c) = (gs k fun j => w j * luU A j c) + (if c < k then 0 else w c)
section LU
variable {s m k : Nat} {A A' : Nat → Nat → cF} {o o' : Nat → Nat} {C : Nat → Nat → cF} {p w w' : Nat → cF}
theorem clS_0 (h : ∀ c, c < s → w c = p (o c)) : clS s 0 A o p w := fun c hc => by
  rw [if_neg (by omega), h c hc]
  exact lu_g5 _
theorem clS_step (h : clS s k A o p w) (h1 : ∀ c, c ≤ k → w' c = w c) (h2 : ∀ c, k < c → c < s → w' c = w c - w k * A k c) : clS s (k + 1) A o p w' := by
  intro c hc
  rw [h c hc]
  show _ = gs k (fun j => w' j * luU A j c) + w' k * luU A k c + _
  rw [gs_congr (f := fun j => w' j * luU A j c) (g := fun j => w j * luU A j c) fun j hj => by rw [h1 j (by omega)], h1 k (Nat.le_refl _)]
  unfold luU
  by_cases e1 : c < k
  · rw [if_pos e1, if_neg (by omega : ¬ c = k), if_neg (by omega), if_pos (by omega)]
    exact lu_g1 _ _
  · rw [if_neg e1]
    by_cases e2 : c = k
    · rw [if_pos e2, if_pos (by omega), e2]
      exact lu_g2 _ _
    · rw [if_neg e2, if_pos (by omega), if_neg (by omega), h2 c (by omega) hc]
      exact lu_g3 _ _ _ _
/-- the last factors are told -/
def bkS (m t : Nat) (A : Nat → Nat → cF) (w g : Nat → cF) : Prop := ∀ j, j < m → w j = (gs m fun i => if t ≤ i then g i * luL A i j else 0) + (if j < t then g j else 0)
theorem bkS_0 : bkS m m A w w := fun j hj => by
  rw [if_pos hj, gs_zero fun i hi => if_neg (by omega)]
  exact lu_g5 _
theorem bkS_step {t : Nat} {g g' : Nat → cF} (ht : t < m) (h : bkS m (t + 1) A w g) (h1 : g' t * A t t = g t) (h2 : ∀ j, j < t → g' j = g j - g' t * A t j) (h3 : ∀ i, t < i → g' i = g i) : bkS m t A w g' := by
  intro j hj
  rw [h j hj]
  have e : (gs m fun i => if t ≤ i then g' i * luL A i j else 0) = (gs m fun i => if t + 1 ≤ i then g i * luL A i j else 0) + g' t * luL A t j := by
    have e0 : g' t * luL A t j = gs m fun i => if i = t then g' t * luL A t j else 0 := by
      rw [gs_one (k := t) ht fun i _ ne => if_neg ne, if_pos rfl]
    rw [e0, ← gs_add]
    exact gs_congr fun i hi => by
      by_cases e : i = t
      · rw [if_pos (by omega), if_neg (by omega), if_pos e, e]
        exact lu_g5 _
      · rw [if_neg e]
        by_cases e2 : t ≤ i
        · rw [if_pos e2, if_pos (by omega), h3 i (by omega)]
          exact lu_g4 _
        · rw [if_neg e2, if_neg (by omega)]
          exact lu_g4 _
  rw [e]
  unfold luL
  by_cases e1 : j < t
  · rw [if_pos (by omega : j < t + 1), if_pos (by omega : j ≤ t), if_pos e1, h2 j e1]
    exact lu_g6 _ _ _ _
  · rw [if_neg e1]
    by_cases e2 : j = t
    · rw [if_pos (by omega : j < t + 1), if_pos (by omega : j ≤ t), e2, h1]
      exact lu_g4 _
    · rw [if_neg (by omega), if_neg (by omega)]
      exact (lu_g1 _ _)
theorem bk_ex (hd : ∀ i, i < m → A i i ≠ 0) (w : Nat → cF) : ∀ u t, t + u = m → ∃ g, bkS m t A w g := by
  intro u
  induction u with
  | zero => intro t e; rw [show t = m by omega]; exact ⟨w, bkS_0⟩
  | succ u ih =>
    intro t e
    obtain ⟨g, hg⟩ := ih (t + 1) (by omega)
    have inv := fInv_mul (hd t (by omega))
    refine ⟨fun i => if i = t then g t * fInv (A t t) else if i < t then g i - g t * fInv (A t t) * A t i else g i, bkS_step (by omega) hg ?_ (fun j hj => ?_) fun i hi => ?_⟩
    · show (if t = t then _ else _) * _ = _
      rw [if_pos rfl]
      have : g t * fInv (A t t) * A t t = g t * (A t t * fInv (A t t)) := by
        generalize g t = a
        generalize fInv (A t t) = b
        generalize A t t = c
        have gen : ∀ {R : Type} [Lean.Grind.CommRing R] (a b c : R), a * b * c = a * (c * b) := by intro R _ a b c; grind
        exact gen a b c
      rw [this, inv, st_g5]
    · show (if j = t then _ else _) = _ - (if t = t then _ else _) * _
      rw [if_neg (by omega), if_pos hj, if_pos rfl]
    · show (if i = t then _ else _) = _
      rw [if_neg (by omega), if_neg (by omega)]
theorem lu_span (h : luOk s m A o C) (hc : clS s m A o p w) (hz : ∀ c, m ≤ c → c < s → w c = 0) {f : Nat → cF} (hb : bkS m 0 A w f) : ∀ r, r < s → p r = lc m f C r := by
  obtain ⟨h1, h2, h3, h4, h5⟩ := h
  intro r hr
  obtain ⟨c, c1, c2⟩ := pigeon s o h2 h3 r hr
  rw [← c2, hc c c1]
  have e0 : (if c < m then (0 : cF) else w c) = 0 := by
    by_cases e : c < m
    · rw [if_pos e]
    · rw [if_neg e, hz c (by omega) c1]
  rw [e0]
  have e1 : (gs m fun j => w j * luU A j c) = gs m fun j => gs m fun i => f i * luL A i j * luU A j c := gs_congr fun j hj => by
    rw [hb j hj, if_neg (by omega), ← lu_g4, ← gs_mulr]
    exact gs_congr fun i hi => by rw [if_pos (Nat.zero_le _)]
  rw [e1, ← lu_g4, gs_swap]
  unfold lc
  refine gs_congr fun i hi => ?_
  rw [h5 i c hi c1, ← gs_mul]
  exact gs_congr fun j hj => gs_z5 _ _ _
theorem lu_ind (h : luOk s m A o C) : rInd s m C := by
  obtain ⟨h1, h2, h3, h4, h5⟩ := h
  intro c hc
  obtain ⟨y, hy⟩ : ∃ y : Nat → cF, y = fun j => gs m fun i => c i * luL A i j := ⟨_, rfl⟩
  have col : ∀ x, x < s → (gs m fun j => y j * luU A j x) = 0 := by
    intro x hx
    rw [← hc (o x) (h2 x hx)]
    unfold lc
    rw [gs_congr (f := fun i => c i * C i (o x)) (g := fun i => gs m fun j => c i * luL A i j * luU A j x) fun i hi => by rw [h5 i x hi hx, ← gs_mul]; exact gs_congr fun j hj => (gs_z5 _ _ _).symm, gs_swap]
    exact gs_congr fun j hj => by rw [hy, gs_mulr]
  have y0 : ∀ b j, j ≤ b → j < m → y j = 0 := by
    intro b
    induction b with
    | zero =>
      intro j hj hm
      have := col j (by omega)
      rw [gs_one (k := j) hm fun i hi ne => ?_] at this
      · unfold luU at this
        rw [if_pos rfl] at this
        rw [← this]; exact (st_g5 _).symm
      · unfold luU
        rw [if_neg (Ne.symm ne), if_neg (by omega)]
        exact gs_z3 _
    | succ b ih =>
      intro j hj hm
      have := col j (by omega)
      rw [gs_one (k := j) hm fun i hi ne => ?_] at this
      · unfold luU at this
        rw [if_pos rfl] at this
        rw [← this]; exact (st_g5 _).symm
      · by_cases e : i < j
        · rw [ih i (by omega) hi]
          exact gs_z1 _
        · unfold luU
          rw [if_neg (Ne.symm ne), if_neg e]
          exact gs_z3 _
  have c0 : ∀ u i, m ≤ i + u → i < m → c i = 0 := by
    intro u
    induction u with
    | zero => intro i h1 h2; omega
    | succ u ih =>
      intro i hi hm
      have := y0 i i (Nat.le_refl _) hm
      rw [hy] at this
      have e : (gs m fun i' => c i' * luL A i' i) = c i * luL A i i := gs_one hm fun i' hi' ne => by
        by_cases e : i' < i
        · unfold luL
          rw [if_neg (by omega)]
          exact gs_z3 _
        · rw [ih i' (by omega) hi']
          exact gs_z1 _
      have this' : (gs m fun i' => c i' * luL A i' i) = 0 := this
      rw [e] at this'
      unfold luL at this'
      rw [if_pos (Nat.le_refl _)] at this'
      rcases fmul_eq_zero this' with q | q
      · exact q
      · exact absurd q (h4 i hm)
  exact fun i hi => c0 m i (by omega) hi
def swc (m e c : Nat) : Nat := if c = m then e else if c = e then m else c
/-- one more -/
theorem lu_ins {e : Nat} (h : luOk s m A o C) (hc : clS s m A o p w) (me : m ≤ e) (es : e < s) (ne : w e ≠ 0) (ho : ∀ c, c < s → o' c = o (swc m e c)) (hA : ∀ k c, k < m → c < s → A' k c = A k (swc m e c)) (hL : ∀ c, c < m → A' m c = w c) (hD : A' m m = w e) (hU : ∀ c, m < c → c < s → A' m c = w (swc m e c) * fInv (w e)) : luOk s (m + 1) A' o' (fun i => if i = m then p else C i) := by
  obtain ⟨h1, h2, h3, h4, h5⟩ := h
  have sws : ∀ c, c < s → swc m e c < s := fun c hcs => by unfold swc; split; exact es; split <;> omega
  have swl : ∀ c, c < m → swc m e c = c := fun c hcm => by unfold swc; rw [if_neg (by omega), if_neg (by omega)]
  have swg : ∀ c, m ≤ c → m ≤ swc m e c := fun c hcm => by unfold swc; split; exact me; split <;> omega
  have swi : ∀ a b, swc m e a = swc m e b → a = b := by
    intro a b
    unfold swc
    split <;> split <;> (try split) <;> (try split) <;> omega
  have eU : ∀ j c, j < m → c < s → luU A' j c = luU A j (swc m e c) := by
    intro j c hj hcs
    unfold luU
    by_cases q : c < m
    · rw [swl c q]
      by_cases q1 : c = j
      · rw [if_pos q1, if_pos q1]
      · rw [if_neg q1, if_neg q1]
        by_cases q2 : j < c
        · rw [if_pos q2, if_pos q2, hA j c hj hcs, swl c q]
        · rw [if_neg q2, if_neg q2]
    · have := swg c (by omega)
      rw [if_neg (show ¬ c = j by omega), if_pos (show j < c by omega), if_neg (show ¬ swc m e c = j by omega), if_pos (show j < swc m e c by omega), hA j c hj hcs]
  refine ⟨by omega, fun c hcs => by rw [ho c hcs]; exact h2 _ (sws c hcs), fun a b ha hb q => ?_, fun i hi => ?_, fun i c hi hcs => ?_⟩
  · rw [ho a ha, ho b hb] at q
    exact swi a b (h3 _ _ (sws a ha) (sws b hb) q)
  · by_cases q : i = m
    · rw [q, hD]; exact ne
    · rw [hA i i (by omega) (by omega), swl i (by omega)]
      exact h4 i (by omega)
  · rw [ho c hcs]
    show (if i = m then p else C i) (o (swc m e c)) = gs m (fun j => luL A' i j * luU A' j c) + luL A' i m * luU A' m c
    by_cases q : i = m
    · rw [if_pos q, hc _ (sws c hcs), q]
      rw [gs_congr (f := fun j => luL A' m j * luU A' j c) (g := fun j => w j * luU A j (swc m e c)) fun j hj => by
        rw [eU j c hj hcs]
        unfold luL
        rw [if_pos (by omega), hL j hj]]
      have el : luL A' m m = w e := by unfold luL; rw [if_pos (Nat.le_refl _), hD]
      rw [el]
      unfold luU
      by_cases q1 : c < m
      · rw [swl c q1, if_pos q1, if_neg (by omega : ¬ c = m), if_neg (by omega : ¬ m < c)]
        exact lu_g9 _ _
      · have := swg c (by omega)
        rw [if_neg (by omega : ¬ swc m e c < m)]
        by_cases q2 : c = m
        · rw [if_pos q2]
          have : swc m e c = e := by unfold swc; rw [if_pos q2]
          rw [this]
          exact lu_g8 _ _
        · rw [if_neg q2, if_pos (by omega), hU c (by omega) hcs]
          exact lu_g7 _ _ (fInv_mul ne)
    · rw [if_neg q, h5 i _ (by omega) (sws c hcs)]
      have : luL A' i m = 0 := by unfold luL; rw [if_neg (by omega)]
      rw [this, gs_z1, ← lu_g4]
      refine gs_congr fun j hj => ?_
      rw [eU j c hj hcs]
      unfold luL
      by_cases q1 : j ≤ i
      · rw [if_pos q1, if_pos q1, hA i j (by omega) (by omega), swl j hj]
      · rw [if_neg q1, if_neg q1]
end LU
