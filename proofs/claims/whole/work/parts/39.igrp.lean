/-! GROUPS of numbers: orders, counting -/
theorem pigeon : ∀ (n : Nat) (f : Nat → Nat), (∀ i, i < n → f i < n) → (∀ i j, i < n → j < n → f i = f j → i = j) → ∀ y, y < n → ∃ x, x < n ∧ f x = y := by
  intro n
  induction n with
  | zero => intro f _ _ y h; omega
  | succ n ih =>
    intro f h1 h2 y hy
    have hv := h1 n (by omega)
    have key := ih (fun i => if f i = n then f n else f i) (by
      intro i hi
      by_cases q : f i = n
      · rw [if_pos q]
        rcases Nat.lt_or_ge (f n) n with r | r
        · exact r
        · have := h2 i n (by omega) (by omega) (by omega); omega
      · rw [if_neg q]; have := h1 i (by omega); omega) (by
      intro i j hi hj e
      by_cases q : f i = n
      · by_cases r : f j = n
        · exact h2 i j (by omega) (by omega) (by omega)
        · rw [if_pos q, if_neg r] at e
          have := h2 n j (by omega) (by omega) e; omega
      · by_cases r : f j = n
        · rw [if_neg q, if_pos r] at e
          have := h2 i n (by omega) (by omega) e; omega
        · rw [if_neg q, if_neg r] at e
          exact h2 i j (by omega) (by omega) e)
    by_cases e : y = f n
    · exact ⟨n, by omega, e.symm⟩
    · by_cases yn : y = n
      · obtain ⟨x, x1, x2⟩ := key (f n) (by omega)
        by_cases q : f x = n
        · exact ⟨x, by omega, by omega⟩
        · rw [if_neg q] at x2
          have := h2 x n (by omega) (by omega) x2; omega
      · obtain ⟨x, x1, x2⟩ := key y (by omega)
        by_cases q : f x = n
        · rw [if_pos q] at x2; exact absurd x2.symm e
        · rw [if_neg q] at x2; exact ⟨x, by omega, x2⟩
/-- how many there are below n -/
def cnt (n : Nat) (P : Nat → Prop) [DecidablePred P] : Int := sg n fun x => if P x then 1 else 0
theorem sg_one {n k : Nat} (h : k < n) : (sg n fun x => if k = x then 1 else 0) = 1 := by
  induction n with
  | zero => omega
  | succ n ih =>
    rw [sg_succ]
    by_cases e : k = n
    · rw [if_pos e, sg_zero (fun i hi => if_neg (by omega))]; rfl
    · rw [if_neg e, ih (by omega)]; rfl
theorem sg_none {n k : Nat} (h : n ≤ k) : (sg n fun x => if k = x then 1 else 0) = 0 := sg_zero fun i hi => if_neg (by omega)
theorem sg_const (n : Nat) (c : Int) : (sg n fun _ => c) = n * c := by
  induction n with
  | zero => simp [sg]
  | succ n ih => rw [sg_succ, ih, Int.natCast_add, Int.add_mul]; simp
/-- what is counted is numbered by f -/
theorem cnt_bij {n r : Nat} {P : Nat → Prop} [DecidablePred P] {f : Nat → Nat} (h1 : ∀ k, k < r → f k < n ∧ P (f k)) (h2 : ∀ i j, i < r → j < r → f i = f j → i = j) (h3 : ∀ x, x < n → P x → ∃ k, k < r ∧ f k = x) : cnt n P = r := by
  have e1 : ∀ x, x < n → (if P x then 1 else 0 : Int) = sg r fun k => if f k = x then 1 else 0 := by
    intro x hx
    by_cases hp : P x
    · rw [if_pos hp]
      obtain ⟨k, k1, k2⟩ := h3 x hx hp
      refine (sg_one k1).symm.trans (sg_congr fun i hi => ?_)
      by_cases e : k = i
      · rw [if_pos e, if_pos (by rw [← e]; exact k2)]
      · rw [if_neg e, if_neg (fun q => e (h2 k i k1 hi (k2.trans q.symm)))]
    · rw [if_neg hp]
      refine (sg_zero fun i hi => if_neg fun q => hp ?_).symm
      rw [← q]
      exact (h1 i hi).2
  unfold cnt
  rw [sg_congr e1, sg_swap, sg_congr (g := fun _ => 1) (fun k hk => sg_one (h1 k hk).1), sg_const]
  omega
/-- all are counted once by where they go -/
theorem cnt_sum {n m : Nat} {f : Nat → Nat} (h : ∀ x, x < n → f x < m) : (sg m fun y => cnt n fun x => f x = y) = n := by
  unfold cnt
  rw [sg_swap, sg_congr (g := fun _ => 1) (fun x hx => sg_one (h x hx)), sg_const]
  omega
theorem sg_dvd {n : Nat} {r : Int} {f : Nat → Int} (h : ∀ i, i < n → r ∣ f i) : r ∣ sg n f := by
  induction n with
  | zero => exact Int.dvd_zero r
  | succ n ih => rw [sg_succ]; exact Int.dvd_add (ih fun i q => h i (by omega)) (h n (by omega))
def isGrp (n : Nat) (op : Nat → Nat → Nat) : Prop := 1 ≤ n ∧ (∀ a b, a < n → b < n → op a b < n) ∧ (∀ a b c, a < n → b < n → c < n → op (op a b) c = op a (op b c)) ∧ (∀ a, a < n → op a 0 = a) ∧ (∀ a, a < n → op 0 a = a) ∧ (∀ a, a < n → ∃ b, b < n ∧ op a b = 0 ∧ op b a = 0)
section IG
variable {n : Nat} {op : Nat → Nat → Nat}
theorem ig_left (G : isGrp n op) {a b c : Nat} (ha : a < n) (hb : b < n) (hc : c < n) (e : op a b = op a c) : b = c := by
  obtain ⟨g1, g2, g3, g4, g5, g6⟩ := G
  obtain ⟨x, x1, x2, x3⟩ := g6 a ha
  have := congrArg (op x) e
  rw [← g3 x a b x1 ha hb, ← g3 x a c x1 ha hc, x3, g5 b hb, g5 c hc] at this
  exact this
theorem ig_right (G : isGrp n op) {a b c : Nat} (ha : a < n) (hb : b < n) (hc : c < n) (e : op b a = op c a) : b = c := by
  obtain ⟨g1, g2, g3, g4, g5, g6⟩ := G
  obtain ⟨x, x1, x2, x3⟩ := g6 a ha
  have := congrArg (fun y => op y x) e
  rw [g3 b a x hb ha x1, g3 c a x hc ha x1, x2, g4 b hb, g4 c hc] at this
  exact this
def pw (op : Nat → Nat → Nat) (g : Nat) : Nat → Nat
  | 0 => 0
  | k + 1 => op (pw op g k) g
theorem pw_lt (G : isGrp n op) {g : Nat} (hg : g < n) (k : Nat) : pw op g k < n := by
  induction k with
  | zero => exact G.1
  | succ k ih => exact G.2.1 _ _ ih hg
theorem pw_add (G : isGrp n op) {g : Nat} (hg : g < n) (i j : Nat) : pw op g (i + j) = op (pw op g i) (pw op g j) := by
  induction j with
  | zero => exact (G.2.2.2.1 _ (pw_lt G hg i)).symm
  | succ j ih =>
    show op (pw op g (i + j)) g = op (pw op g i) (op (pw op g j) g)
    rw [ih, G.2.2.1 _ _ _ (pw_lt G hg i) (pw_lt G hg j) hg]
theorem pw_one (G : isGrp n op) {g : Nat} (hg : g < n) : pw op g 1 = g := G.2.2.2.2.1 g hg
/-- the order of g is r -/
def isOrd (op : Nat → Nat → Nat) (g r : Nat) : Prop := 1 ≤ r ∧ pw op g r = 0 ∧ ∀ k, 1 ≤ k → k < r → pw op g k ≠ 0
theorem pw_diff (G : isGrp n op) {g : Nat} (hg : g < n) {i j : Nat} (h : i ≤ j) (e : pw op g i = pw op g j) : pw op g (j - i) = 0 := by
  have h1 := pw_add G hg i (j - i)
  rw [show i + (j - i) = j by omega, ← e] at h1
  exact (ig_left G (pw_lt G hg i) G.1 (pw_lt G hg _) (by rw [G.2.2.2.1 _ (pw_lt G hg i)]; exact h1)).symm
theorem ord_some (G : isGrp n op) {g : Nat} (hg : g < n) : ∃ k, 1 ≤ k ∧ k ≤ n ∧ pw op g k = 0 := by
  apply Classical.byContradiction
  intro H
  have no : ∀ k, 1 ≤ k → k ≤ n → pw op g k ≠ 0 := fun k a b e => H ⟨k, a, b, e⟩
  obtain ⟨x, x1, x2⟩ := pigeon n (fun k => pw op g (k + 1)) (fun i _ => pw_lt G hg _) (by
    intro i j hi hj e
    rcases Nat.lt_trichotomy i j with q | q | q
    · exact absurd (pw_diff G hg (show i + 1 ≤ j + 1 by omega) e) (no _ (by omega) (by omega))
    · exact q
    · exact absurd (pw_diff G hg (show j + 1 ≤ i + 1 by omega) e.symm) (no _ (by omega) (by omega))) 0 G.1
  exact no (x + 1) (by omega) (by omega) x2
theorem least {P : Nat → Prop} : ∀ (k : Nat), P k → ∃ m, m ≤ k ∧ P m ∧ ∀ i, i < m → ¬ P i := by
  intro k
  induction k using Nat.strongRecOn with
  | ind k ih =>
    intro h
    by_cases q : ∃ i, i < k ∧ P i
    · obtain ⟨i, i1, i2⟩ := q
      obtain ⟨m, m1, m2, m3⟩ := ih i i1 i2
      exact ⟨m, by omega, m2, m3⟩
    · exact ⟨k, Nat.le_refl k, h, fun i hi hp => q ⟨i, hi, hp⟩⟩
theorem ord_ex (G : isGrp n op) {g : Nat} (hg : g < n) : ∃ r, r ≤ n ∧ isOrd op g r := by
  obtain ⟨k, k1, k2, k3⟩ := ord_some G hg
  obtain ⟨m, m1, m2, m3⟩ := least (P := fun k => 1 ≤ k ∧ pw op g k = 0) k ⟨k1, k3⟩
  exact ⟨m, by omega, m2.1, m2.2, fun i i1 i2 e => m3 i i2 ⟨i1, e⟩⟩
theorem ord_uniq {g r r' : Nat} (h : isOrd op g r) (h' : isOrd op g r') : r = r' := by
  rcases Nat.lt_trichotomy r r' with q | q | q
  · exact absurd h.2.1 (h'.2.2 r h.1 q)
  · exact q
  · exact absurd h'.2.1 (h.2.2 r' h'.1 q)
theorem ord_inj (G : isGrp n op) {g r : Nat} (hg : g < n) (h : isOrd op g r) {i j : Nat} (hi : i < r) (hj : j < r) (e : pw op g i = pw op g j) : i = j := by
  rcases Nat.lt_trichotomy i j with q | q | q
  · exact absurd (pw_diff G hg (by omega) e) (h.2.2 _ (by omega) (by omega))
  · exact q
  · exact absurd (pw_diff G hg (by omega) e.symm) (h.2.2 _ (by omega) (by omega))
theorem pw_mod (G : isGrp n op) {g r : Nat} (hg : g < n) (h : isOrd op g r) (k : Nat) : pw op g k = pw op g (k % r) := by
  have key : ∀ q s, pw op g (r * q + s) = pw op g s := by
    intro q
    induction q with
    | zero => intro s; rw [Nat.mul_zero, Nat.zero_add]
    | succ q ih =>
      intro s
      rw [Nat.mul_succ, show r * q + r + s = r * q + (r + s) by omega, ih, pw_add G hg, h.2.1, G.2.2.2.2.1 _ (pw_lt G hg s)]
  conv => lhs; rw [← Nat.div_add_mod k r, key]
/-- the order of a member tells how many there are of all, by lots of equal size -/
theorem ord_dvd (G : isGrp n op) {g r : Nat} (hg : g < n) (h : isOrd op g r) : r ∣ n := by
  have h1 := h.1
  have ex : ∀ x, x < n → ∃ m, (∃ k, k < r ∧ m = op x (pw op g k)) ∧ ∀ i, i < m → ¬ ∃ k, k < r ∧ i = op x (pw op g k) := by
    intro x hx
    obtain ⟨m, _, m2, m3⟩ := least (P := fun m => ∃ k, k < r ∧ m = op x (pw op g k)) (op x (pw op g 0)) ⟨0, by omega, rfl⟩
    exact ⟨m, m2, m3⟩
  have exf : ∃ f : Nat → Nat, ∀ x, x < n → (∃ k, k < r ∧ f x = op x (pw op g k)) ∧ ∀ i, i < f x → ¬ ∃ k, k < r ∧ i = op x (pw op g k) := by
    refine ⟨fun x => if q : x < n then Classical.choose (ex x q) else 0, fun x hx => ?_⟩
    simp only [hx, dite_true]
    exact Classical.choose_spec (ex x hx)
  obtain ⟨f, hf⟩ := exf
  have flt : ∀ x, x < n → f x < n := by
    intro x hx
    obtain ⟨⟨k, k1, k2⟩, _⟩ := hf x hx
    rw [k2]
    exact G.2.1 _ _ hx (pw_lt G hg k)
  have mv : ∀ x k, x < n → f (op x (pw op g k)) = f x := by
    intro x k hx
    have hy := G.2.1 x (pw op g k) hx (pw_lt G hg k)
    obtain ⟨⟨a, a1, a2⟩, a3⟩ := hf x hx
    obtain ⟨⟨b, b1, b2⟩, b3⟩ := hf _ hy
    have c1 : ∃ j, j < r ∧ f (op x (pw op g k)) = op x (pw op g j) := by
      refine ⟨(k + b) % r, Nat.mod_lt _ (by omega), ?_⟩
      rw [b2, G.2.2.1 _ _ _ hx (pw_lt G hg k) (pw_lt G hg b), ← pw_add G hg, pw_mod G hg h (k + b)]
    have c2 : ∃ j, j < r ∧ f x = op (op x (pw op g k)) (pw op g j) := by
      refine ⟨(a + (r - k % r)) % r, Nat.mod_lt _ (by omega), ?_⟩
      rw [a2, G.2.2.1 _ _ _ hx (pw_lt G hg k) (pw_lt G hg _), ← pw_mod G hg h, pw_mod G hg h k, ← pw_add G hg, pw_mod G hg h (k % r + (a + (r - k % r)))]
      have : (k % r + (a + (r - k % r))) % r = a := by
        have hk := Nat.mod_lt k (show 0 < r by omega)
        rw [show k % r + (a + (r - k % r)) = a + r by omega, Nat.add_mod_right, Nat.mod_eq_of_lt a1]
      rw [this]
    rcases Nat.lt_trichotomy (f (op x (pw op g k))) (f x) with q | q | q
    · exact absurd c1 (a3 _ q)
    · exact q
    · exact absurd c2 (b3 _ q)
  have hs := cnt_sum (n := n) (m := n) (f := f) flt
  have hd : (r : Int) ∣ (n : Int) := by
    rw [← hs]
    refine sg_dvd fun y hy => ?_
    by_cases q : ∃ x, x < n ∧ f x = y
    · obtain ⟨x, x1, x2⟩ := q
      rw [cnt_bij (r := r) (f := fun k => op x (pw op g k))]
      · exact Int.dvd_refl _
      · intro k _
        exact ⟨G.2.1 _ _ x1 (pw_lt G hg k), by rw [mv x k x1, x2]⟩
      · intro i j hi hj e
        exact ord_inj G hg h hi hj (ig_left G x1 (pw_lt G hg i) (pw_lt G hg j) e)
      · intro w hw e
        obtain ⟨⟨a, a1, a2⟩, _⟩ := hf w hw
        obtain ⟨⟨b, b1, b2⟩, _⟩ := hf x x1
        refine ⟨(b + (r - a)) % r, Nat.mod_lt _ (by omega), ?_⟩
        show op x (pw op g ((b + (r - a)) % r)) = w
        rw [← pw_mod G hg h, pw_add G hg, ← G.2.2.1 _ _ _ x1 (pw_lt G hg b) (pw_lt G hg _), ← b2, x2, ← e, a2, G.2.2.1 _ _ _ hw (pw_lt G hg a) (pw_lt G hg _), ← pw_add G hg, show a + (r - a) = r by omega, h.2.1, G.2.2.2.1 w hw]
    · have : cnt n (fun x => f x = y) = 0 := sg_zero fun i hi => if_neg fun e => q ⟨i, hi, e⟩
      rw [this]
      exact Int.dvd_zero _
  exact Int.ofNat_dvd.mp hd
end IG
/-- the numbers of the members are a group -/
theorem isGrp_gm {T : Nat → cMat} {nt n : Nat} {L : Nat → cMat} (G : isG T nt n L) (hT : ∀ t, t < nt → mDet (T t) ≠ 0) : isGrp n (gm n L) := by
  have n1 := G.1
  refine ⟨G.1, fun a b ha hb => (gm_lt G ha hb).1, fun a b c ha hb hc => gm_assoc G ha hb hc, fun a ha => gm_zero G ha, fun a ha => zero_gm G ha, fun a ha => ?_⟩
  obtain ⟨B, b1, b2, b3⟩ := isG_un G hT ha
  obtain ⟨x, x1, x2⟩ := pigeon n (gm n L a) (fun i hi => (gm_lt G ha hi).1) (by
    intro i j hi hj e
    have e1 := (gm_lt G ha hi).2
    rw [e, (gm_lt G ha hj).2] at e1
    have e2 := congrArg (mm B) e1
    rw [← mm_assoc, ← mm_assoc, b3, id_mm (G.2.2.2.1 j hj), id_mm (G.2.2.2.1 i hi)] at e2
    exact G.2.2.2.2.1 i j hi hj e2.symm) 0 (by omega)
  refine ⟨x, x1, x2, ?_⟩
  have e := (gm_eq G ha x1 (show 0 < n by omega)).mp x2
  rw [gm_eq G x1 ha (by omega)]
  have : L x = B := by
    have e2 := congrArg (mm B) e
    rw [← mm_assoc, b3, id_mm (G.2.2.2.1 x x1), G.2.2.1, mm_id b1] at e2
    exact e2.symm
  rw [this, b3, G.2.2.1]
