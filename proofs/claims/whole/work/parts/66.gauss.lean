/-! ROWS are taken from rows: what it keeps -/
def spn (m : Nat) (M M' : Nat → Nat → cF) : Prop := (∀ i, i < m → inS 160 m M (M' i)) ∧ (∀ i, i < m → inS 160 m M' (M i))
theorem spn_refl (m : Nat) (M : Nat → Nat → cF) : spn m M M := ⟨fun i hi => inS_row hi, fun i hi => inS_row hi⟩
theorem spn_trans {m : Nat} {M M' M'' : Nat → Nat → cF} (h : spn m M M') (h' : spn m M' M'') : spn m M M'' := ⟨fun i hi => inS_trans (h'.1 i hi) h.1, fun i hi => inS_trans (h.2 i hi) h'.2⟩
theorem spn_congr {m : Nat} {M M' : Nat → Nat → cF} (h : ∀ i k, i < m → k < 160 → M' i k = M i k) : spn m M M' := ⟨fun i hi => inS_congr (inS_row hi) fun k hk => h i k hi hk, fun i hi => inS_congr (inS_row hi) fun k hk => (h i k hi hk).symm⟩
theorem spn_iff {m : Nat} {M M' : Nat → Nat → cF} (h : spn m M M') (v : Nat → cF) : inS 160 m M v ↔ inS 160 m M' v := ⟨fun x => inS_trans x h.2, fun x => inS_trans x h.1⟩
/-- rows r and s change places -/
def swp (r s q : Nat) : Nat := if q = r then s else if q = s then r else q
theorem swp_swp (r s q : Nat) : swp r s (swp r s q) = q := by
  unfold swp
  by_cases h1 : q = r
  · rw [if_pos h1]
    by_cases h2 : s = r
    · rw [if_pos h2]; omega
    · rw [if_neg h2, if_pos rfl]; omega
  · rw [if_neg h1]
    by_cases h2 : q = s
    · rw [if_pos h2, if_pos rfl]; omega
    · rw [if_neg h2, if_neg h1, if_neg h2]
theorem swp_lt {r s q m : Nat} (hr : r < m) (hs : s < m) (hq : q < m) : swp r s q < m := by
  unfold swp
  split <;> (try split) <;> omega
theorem spn_swp {m r s : Nat} (M : Nat → Nat → cF) (hr : r < m) (hs : s < m) : spn m M (fun q => M (swp r s q)) := by
  refine ⟨fun i hi => inS_row (swp_lt hr hs hi), fun i hi => ?_⟩
  have := inS_row (n := 160) (m := m) (w := fun q => M (swp r s q)) (i := swp r s i) (swp_lt hr hs hi)
  exact inS_congr this fun k _ => by show M i k = M (swp r s (swp r s i)) k; rw [swp_swp]
theorem el_g1 {R : Type} [Lean.Grind.CommRing R] {x y c e : R} (h : c * e = 1) : x = e * (x * c) := by
  have : e * (x * c) = x * (c * e) := by grind
  rw [this, h]
  grind
theorem el_g2 {R : Type} [Lean.Grind.CommRing R] (x f y : R) : x - f * y = x + (-f) * y := by grind
theorem el_g3 {R : Type} [Lean.Grind.CommRing R] (x f y : R) : x = (x - f * y) + f * y := by grind
theorem el_g4 {R : Type} [Lean.Grind.CommRing R] (x c : R) : x * c = c * x := by grind
theorem spn_scale {m s : Nat} (M : Nat → Nat → cF) {c e : cF} (h : c * e = 1) (hs : s < m) : spn m M (fun q k => if q = s then M s k * c else M q k) := by
  refine ⟨fun i hi => ?_, fun i hi => ?_⟩
  · by_cases q : i = s
    · refine inS_congr (inS_smul c (inS_row (w := M) hs)) fun k _ => ?_
      show (if i = s then M s k * c else M i k) = _
      rw [if_pos q]
      exact el_g4 _ _
    · exact inS_congr (inS_row (w := M) hi) fun k _ => if_neg q
  · have row := inS_row (n := 160) (m := m) (w := fun q k => if q = s then M s k * c else M q k) hi
    by_cases q : i = s
    · refine inS_congr (inS_smul e row) fun k _ => ?_
      show M i k = e * (if i = s then M s k * c else M i k)
      rw [if_pos q, q]
      exact el_g1 (y := 0) h
    · refine inS_congr row fun k _ => ?_
      show M i k = if i = s then M s k * c else M i k
      rw [if_neg q]
theorem spn_sub {m s : Nat} (M : Nat → Nat → cF) (f : Nat → cF) (hs : s < m) : spn m M (fun q k => if q = s then M s k else M q k - f q * M s k) := by
  have base := inS_row (n := 160) (m := m) (w := M) hs
  have base' : inS 160 m (fun q k => if q = s then M s k else M q k - f q * M s k) (M s) := inS_congr (inS_row (n := 160) (m := m) (w := fun q k => if q = s then M s k else M q k - f q * M s k) hs) fun k _ => by
    show M s k = if s = s then M s k else _
    rw [if_pos rfl]
  refine ⟨fun i hi => ?_, fun i hi => ?_⟩
  · by_cases q : i = s
    · exact inS_congr base fun k _ => if_pos q
    · refine inS_congr (inS_add (inS_row (w := M) hi) (inS_smul (-(f i)) base)) fun k _ => ?_
      show (if i = s then M s k else M i k - f i * M s k) = M i k + -(f i) * M s k
      rw [if_neg q]
      exact el_g2 _ _ _
  · by_cases q : i = s
    · rw [q]; exact base'
    · refine inS_congr (inS_add (inS_row (n := 160) (m := m) (w := fun q k => if q = s then M s k else M q k - f q * M s k) hi) (inS_smul (f i) base')) fun k _ => ?_
      show M i k = (if i = s then M s k else M i k - f i * M s k) + f i * M s k
      rw [if_neg q]
      exact el_g3 _ _ _
/-- in steps as far as column c -/
def gSt (m c done : Nat) (M : Nat → Nat → cF) (p : Nat → Nat) : Prop := done ≤ m ∧ done ≤ c ∧ (∀ i, i < done → p i < c) ∧ (∀ i j, i < j → j < done → p i < p j) ∧ (∀ i, i < done → M i (p i) = 1) ∧ (∀ q i, q < m → i < done → q ≠ i → M q (p i) = 0) ∧ (∀ i k, i < done → k < p i → M i k = 0) ∧ (∀ q k, done ≤ q → q < m → k < c → M q k = 0)
theorem gSt_congr {m c done : Nat} {M M' : Nat → Nat → cF} {p p' : Nat → Nat} (h : gSt m c done M p) (hc : c ≤ 160) (e : ∀ q k, q < m → k < 160 → M' q k = M q k) (ep : ∀ i, i < done → p' i = p i) : gSt m c done M' p' := by
  obtain ⟨a1, a2, a3, a4, a5, a6, a7, a8⟩ := h
  refine ⟨a1, a2, fun i hi => by rw [ep i hi]; exact a3 i hi, fun i j hij hj => by rw [ep i (by omega), ep j hj]; exact a4 i j hij hj, fun i hi => ?_, fun q i hq hi hne => ?_, fun i k hi hk => ?_, fun q k h1 h2 h3 => by rw [e q k h2 (by omega)]; exact a8 q k h1 h2 h3⟩
  · have := a3 i hi
    rw [ep i hi, e i _ (by omega) (by omega)]; exact a5 i hi
  · have := a3 i hi
    rw [ep i hi, e q _ hq (by omega)]; exact a6 q i hq hi hne
  · rw [ep i hi] at hk
    have := a3 i hi
    rw [e i k (by omega) (by omega)]; exact a7 i k hi hk
theorem gSt_skip {m c done : Nat} {M : Nat → Nat → cF} {p : Nat → Nat} (h : gSt m c done M p) (z : ∀ q, done ≤ q → q < m → M q c = 0) : gSt m (c + 1) done M p := by
  obtain ⟨a1, a2, a3, a4, a5, a6, a7, a8⟩ := h
  refine ⟨a1, by omega, fun i hi => by have := a3 i hi; omega, a4, a5, a6, a7, fun q k h1 h2 h3 => ?_⟩
  by_cases e : k = c
  · rw [e]; exact z q h1 h2
  · exact a8 q k h1 h2 (by omega)
/-- one step: the row r with something in column c becomes row done, all others lose column c -/
def gsc (M : Nat → Nat → cF) (r s c : Nat) : Nat → Nat → cF := fun q k => if q = s then M r k * fInv (M r c) else M (swp r s q) k
def gst1 (M : Nat → Nat → cF) (r s c : Nat) : Nat → Nat → cF := fun q k => if q = s then gsc M r s c s k else gsc M r s c q k - gsc M r s c q c * gsc M r s c s k
theorem g_z1 {R : Type} [Lean.Grind.CommRing R] (x y : R) : x - y * 0 = x := by grind
theorem g_z2 {R : Type} [Lean.Grind.CommRing R] (x : R) : x - x * 1 = 0 := by grind
theorem swp_s (r s : Nat) : swp r s s = r := by
  unfold swp
  by_cases h : s = r
  · rw [if_pos h, h]
  · rw [if_neg h, if_pos rfl]
theorem swp_ge {r s q : Nat} (hr : s ≤ r) (hq : s ≤ q) : s ≤ swp r s q := by
  unfold swp
  split <;> (try split) <;> omega
theorem swp_lo {r s q : Nat} (hr : s ≤ r) (hq : q < s) : swp r s q = q := by
  unfold swp
  rw [if_neg (by omega), if_neg (by omega)]
theorem spn_gst {m r s c : Nat} {M : Nat → Nat → cF} (hr : r < m) (hs : s < m) (nz : M r c ≠ 0) : spn m M (gst1 M r s c) := by
  have h1 := spn_swp M hr hs
  have h2 := spn_scale (s := s) (fun q => M (swp r s q)) (c := fInv (M r c)) (e := M r c) (by rw [el_g4]; exact fInv_mul nz) hs
  have h3 := spn_sub (s := s) (gsc M r s c) (fun q => gsc M r s c q c) hs
  refine spn_trans h1 (spn_trans (spn_trans h2 (spn_congr fun i k _ _ => ?_)) h3)
  show gsc M r s c i k = if i = s then M (swp r s s) k * fInv (M r c) else M (swp r s i) k
  rw [swp_s]
  rfl
theorem gSt_step {m c done r : Nat} {M : Nat → Nat → cF} {p : Nat → Nat} (h : gSt m c done M p) (hr : done ≤ r) (hr2 : r < m) (nz : M r c ≠ 0) : gSt m (c + 1) (done + 1) (gst1 M r done c) (fun i => if i = done then c else p i) := by
  obtain ⟨a1, a2, a3, a4, a5, a6, a7, a8⟩ := h
  have z0 : ∀ k, k < c → gsc M r done c done k = 0 := fun k hk => by
    unfold gsc
    rw [if_pos rfl, a8 r k hr hr2 hk, gs_z1]
  have one : gsc M r done c done c = 1 := by
    unfold gsc
    rw [if_pos rfl]
    exact fInv_mul nz
  have oth : ∀ q k, q ≠ done → gsc M r done c q k = M (swp r done q) k := fun q k hq => by unfold gsc; rw [if_neg hq]
  have fin0 : ∀ q k, q ≠ done → k < c → gst1 M r done c q k = M (swp r done q) k := fun q k hq hk => by
    unfold gst1
    rw [if_neg hq, z0 k hk, g_z1, oth q k hq]
  have finc : ∀ q, q ≠ done → gst1 M r done c q c = 0 := fun q hq => by
    unfold gst1
    rw [if_neg hq, one, g_z2]
  have find : ∀ k, gst1 M r done c done k = gsc M r done c done k := fun k => by unfold gst1; rw [if_pos rfl]
  refine ⟨by omega, by omega, fun i hi => ?_, fun i j hij hj => ?_, fun i hi => ?_, fun q i hq hi hne => ?_, fun i k hi hk => ?_, fun q k h1 h2 h3 => ?_⟩
  · show (if i = done then c else p i) < c + 1
    by_cases e : i = done
    · rw [if_pos e]; omega
    · rw [if_neg e]; have := a3 i (by omega); omega
  · show (if i = done then c else p i) < (if j = done then c else p j)
    rw [if_neg (by omega)]
    by_cases e : j = done
    · rw [if_pos e]; exact a3 i (by omega)
    · rw [if_neg e]; exact a4 i j hij (by omega)
  · show gst1 M r done c i (if i = done then c else p i) = 1
    by_cases e : i = done
    · rw [if_pos e, e, find]; exact one
    · rw [if_neg e, fin0 i _ e (a3 i (by omega)), swp_lo hr (by omega)]; exact a5 i (by omega)
  · show gst1 M r done c q (if i = done then c else p i) = 0
    by_cases e : i = done
    · rw [if_pos e]; exact finc q (by omega)
    · rw [if_neg e]
      have hp := a3 i (by omega)
      by_cases eq : q = done
      · rw [eq, find]; exact z0 _ hp
      · rw [fin0 q _ eq hp]
        refine a6 _ i (swp_lt hr2 (by omega) hq) (by omega) ?_
        by_cases ql : q < done
        · rw [swp_lo hr ql]; exact hne
        · have := swp_ge (q := q) hr (by omega)
          omega
  · have hk' : k < if i = done then c else p i := hk
    by_cases e : i = done
    · rw [if_pos e] at hk'
      rw [e, find]; exact z0 k hk'
    · rw [if_neg e] at hk'
      have := a3 i (by omega)
      rw [fin0 i k e (by omega), swp_lo hr (by omega)]
      exact a7 i k (by omega) hk'
  · by_cases e : k = c
    · rw [e]; exact finc q (by omega)
    · rw [fin0 q k (by omega) (by omega)]
      exact a8 _ k (swp_ge hr (by omega)) (swp_lt hr2 (by omega) h2) (by omega)
