/-! LINEAR ALGEBRA over the field -/
theorem f_one_ne : (1 : cF) ≠ 0 := by decide
theorem f_inv_ex {a : cF} (h : a ≠ 0) : ∃ b : cF, a * b = 1 := ⟨fInv a, fInv_mul h⟩
def lc (m : Nat) (c : Nat → cF) (w : Nat → Nat → cF) (k : Nat) : cF := gs m fun i => c i * w i k
def inS (n m : Nat) (w : Nat → Nat → cF) (v : Nat → cF) : Prop := ∃ c, ∀ k, k < n → v k = lc m c w k
theorem gs_z1 {R : Type} [Lean.Grind.CommRing R] (a : R) : 0 * a = 0 := by grind
theorem gs_z2 {R : Type} [Lean.Grind.CommRing R] (a : R) : 1 * a = a := by grind
theorem gs_z3 {R : Type} [Lean.Grind.CommRing R] (a : R) : a * 0 = 0 := by grind
theorem gs_z4 {R : Type} [Lean.Grind.CommRing R] (a b c : R) : (a + b) * c = a * c + b * c := by grind
theorem gs_z5 {R : Type} [Lean.Grind.CommRing R] (a b c : R) : a * b * c = a * (b * c) := by grind
theorem lc_one {m i : Nat} (hi : i < m) (w : Nat → Nat → cF) (k : Nat) : lc m (fun j => if j = i then 1 else 0) w k = w i k := by
  unfold lc
  rw [gs_one hi (fun j hj he => by show (if j = i then (1 : cF) else 0) * w j k = 0; rw [if_neg he, gs_z1])]
  show (if i = i then (1 : cF) else 0) * w i k = w i k
  rw [if_pos rfl, gs_z2]
theorem lc_add (m : Nat) (c e : Nat → cF) (w : Nat → Nat → cF) (k : Nat) : lc m (fun i => c i + e i) w k = lc m c w k + lc m e w k := by
  unfold lc
  rw [← gs_add]
  exact gs_congr fun i _ => gs_z4 _ _ _
theorem lc_smul (m : Nat) (a : cF) (c : Nat → cF) (w : Nat → Nat → cF) (k : Nat) : lc m (fun i => a * c i) w k = a * lc m c w k := by
  unfold lc
  rw [← gs_mul]
  exact gs_congr fun i _ => gs_z5 _ _ _
theorem lc_zero (m : Nat) (w : Nat → Nat → cF) (k : Nat) : lc m (fun _ => 0) w k = 0 := gs_zero fun _ _ => gs_z1 _
theorem lc_lc (m m' : Nat) (c : Nat → cF) (e : Nat → Nat → cF) (w : Nat → Nat → cF) (k : Nat) : lc m c (fun i => lc m' (e i) w) k = lc m' (fun j => gs m fun i => c i * e i j) w k := by
  unfold lc
  have h1 : gs m (fun i => c i * gs m' fun j => e i j * w j k) = gs m (fun i => gs m' fun j => c i * e i j * w j k) := by
    refine gs_congr fun i _ => ?_
    rw [← gs_mul]
    exact gs_congr fun j _ => (gs_z5 _ _ _).symm
  rw [h1, gs_swap]
  refine gs_congr fun j _ => ?_
  rw [← gs_mulr]
theorem lc_congr {m : Nat} {c e : Nat → cF} {w x : Nat → Nat → cF} {k : Nat} (h : ∀ i, i < m → c i = e i) (h2 : ∀ i, i < m → w i k = x i k) : lc m c w k = lc m e x k := gs_congr fun i hi => by rw [h i hi, h2 i hi]
section LA
variable {n m : Nat} {w : Nat → Nat → cF} {u v : Nat → cF}
theorem inS_row {i : Nat} (hi : i < m) : inS n m w (w i) := ⟨_, fun k _ => (lc_one hi w k).symm⟩
theorem inS_zero : inS n m w (fun _ => 0) := ⟨fun _ => 0, fun k _ => (lc_zero m w k).symm⟩
theorem inS_add (hu : inS n m w u) (hv : inS n m w v) : inS n m w (fun k => u k + v k) := by
  obtain ⟨c, hc⟩ := hu
  obtain ⟨e, he⟩ := hv
  exact ⟨fun i => c i + e i, fun k hk => by rw [lc_add, ← hc k hk, ← he k hk]⟩
theorem inS_smul (a : cF) (hu : inS n m w u) : inS n m w (fun k => a * u k) := by
  obtain ⟨c, hc⟩ := hu
  exact ⟨fun i => a * c i, fun k hk => by rw [lc_smul, ← hc k hk]⟩
theorem inS_congr (hu : inS n m w u) (h : ∀ k, k < n → v k = u k) : inS n m w v := by
  obtain ⟨c, hc⟩ := hu
  exact ⟨c, fun k hk => by rw [h k hk, hc k hk]⟩
theorem inS_trans {m' : Nat} {w' : Nat → Nat → cF} (hv : inS n m w v) (H : ∀ i, i < m → inS n m' w' (w i)) : inS n m' w' v := by
  obtain ⟨c, hc⟩ := hv
  have ex : ∃ e : Nat → Nat → cF, ∀ i, i < m → ∀ k, k < n → w i k = lc m' (e i) w' k := by
    refine ⟨fun i => if h : i < m then Classical.choose (H i h) else fun _ => 0, fun i hi k hk => ?_⟩
    have := Classical.choose_spec (H i hi) k hk
    rw [show (fun i => if h : i < m then Classical.choose (H i h) else fun _ => 0) i = Classical.choose (H i hi) from dif_pos hi]
    exact this
  obtain ⟨e, he⟩ := ex
  refine ⟨fun j => gs m fun i => c i * e i j, fun k hk => ?_⟩
  rw [hc k hk, ← lc_lc]
  exact lc_congr (fun _ _ => rfl) fun i hi => he i hi k hk
theorem inS_lc {c : Nat → cF} {m' : Nat} {w' : Nat → Nat → cF} (H : ∀ i, i < m → inS n m' w' (w i)) : inS n m' w' (lc m c w) := inS_trans ⟨c, fun _ _ => rfl⟩ H
theorem inS_mono {m' : Nat} (h : m ≤ m') (hv : inS n m w v) : inS n m' w v := inS_trans hv fun i hi => inS_row (by omega)
end LA
theorem gs_del {R : Type} [Lean.Grind.CommRing R] : ∀ (n p : Nat), p ≤ n → ∀ f : Nat → R, gs (n + 1) f = f p + gs n (fun i => f (if i < p then i else i + 1)) := by
  intro n
  induction n with
  | zero =>
    intro p hp f
    rw [show p = 0 by omega]
    show (0 : R) + f 0 = f 0 + 0
    grind
  | succ n ih =>
    intro p hp f
    rw [gs]
    by_cases e : p = n + 1
    · rw [e, gs_congr (g := fun i => f (if i < n + 1 then i else i + 1)) (fun i hi => by show f i = f (if i < n + 1 then i else i + 1); rw [if_pos hi])]
      grind
    · rw [ih p (by omega), gs]
      rw [show (if n < p then n else n + 1) = n + 1 from if_neg (by omega)]
      grind
theorem dep_gen {R : Type} [Lean.Grind.CommRing R] {a b s x y q : R} (h : x * q = 1) : b - b * q * x = 0 := by
  have : b * q * x = b * (x * q) := by grind
  rw [this, h]
  grind
theorem dep_r {R : Type} [Lean.Grind.CommRing R] (c x y q z : R) : - (c * (y * q)) * z + c * x = c * (x - y * q * z) := by grind
/-- one vector more than there are places: they depend on each other -/
theorem dep : ∀ (M : Nat) (w : Nat → Nat → cF), ∃ c : Nat → cF, (∃ i, i ≤ M ∧ c i ≠ 0) ∧ ∀ k, k < M → lc (M + 1) c w k = 0 := by
  intro M
  induction M with
  | zero => intro w; exact ⟨fun _ => 1, ⟨0, Nat.le_refl 0, f_one_ne⟩, fun k hk => by omega⟩
  | succ M ih =>
    intro w
    by_cases h : ∃ p, p ≤ M + 1 ∧ w p M ≠ 0
    · obtain ⟨p, hp, hw⟩ := h
      obtain ⟨q, hq⟩ := f_inv_ex hw
      obtain ⟨c, ⟨i0, hi0, hc0⟩, hc⟩ := ih fun i k => w (if i < p then i else i + 1) k - w (if i < p then i else i + 1) M * q * w p k
      refine ⟨fun j => if j = p then - gs (M + 1) (fun i => c i * (w (if i < p then i else i + 1) M * q)) else if j < p then c j else c (j - 1), ⟨if i0 < p then i0 else i0 + 1, ?_, ?_⟩, fun k hk => ?_⟩
      · split <;> omega
      · show (if (if i0 < p then i0 else i0 + 1) = p then _ else if (if i0 < p then i0 else i0 + 1) < p then c (if i0 < p then i0 else i0 + 1) else c ((if i0 < p then i0 else i0 + 1) - 1)) ≠ 0
        by_cases e : i0 < p
        · rw [if_pos e, if_neg (by omega), if_pos e]; exact hc0
        · rw [if_neg e, if_neg (by omega), if_neg (by omega), Nat.add_sub_cancel]; exact hc0
      · unfold lc
        rw [gs_del (M + 1) p hp]
        have e1 : gs (M + 1) (fun i => (fun j => (if j = p then - gs (M + 1) (fun i => c i * (w (if i < p then i else i + 1) M * q)) else if j < p then c j else c (j - 1)) * w j k) (if i < p then i else i + 1)) = gs (M + 1) (fun i => c i * w (if i < p then i else i + 1) k) := by
          refine gs_congr fun i hi => ?_
          dsimp only
          by_cases e : i < p
          · rw [if_pos e, if_neg (by omega), if_pos e]
          · rw [if_neg e, if_neg (by omega), if_neg (by omega), Nat.add_sub_cancel]
        rw [e1]
        dsimp only
        rw [if_pos rfl]
        have e2 : - gs (M + 1) (fun i => c i * (w (if i < p then i else i + 1) M * q)) * w p k + gs (M + 1) (fun i => c i * w (if i < p then i else i + 1) k) = gs (M + 1) (fun i => c i * (w (if i < p then i else i + 1) k - w (if i < p then i else i + 1) M * q * w p k)) := by
          rw [← gs_neg, ← gs_mulr, ← gs_add]
          exact gs_congr fun i _ => dep_r _ _ _ _ _
        rw [e2]
        by_cases ek : k = M
        · rw [ek]
          refine gs_zero fun i _ => ?_
          rw [dep_gen (a := 0) (s := 0) (y := 0) hq, gs_z3]
        · exact hc k (by omega)
    · obtain ⟨c, ⟨i0, hi0, hc0⟩, hc⟩ := ih w
      refine ⟨fun i => if i ≤ M then c i else 0, ⟨i0, by omega, by show (if i0 ≤ M then c i0 else 0) ≠ 0; rw [if_pos hi0]; exact hc0⟩, fun k hk => ?_⟩
      have z : ∀ p, p ≤ M + 1 → w p M = 0 := fun p hp => Classical.byContradiction fun q => h ⟨p, hp, q⟩
      unfold lc
      by_cases ek : k = M
      · rw [ek]
        exact gs_zero fun i hi => by rw [z i (by omega), gs_z3]
      · rw [gs]
        dsimp only
        rw [if_neg (by omega), gs_z1]
        have := hc k (by omega)
        unfold lc at this
        rw [gs_congr (g := fun i => c i * w i k) (fun i hi => by show (if i ≤ M then c i else 0) * w i k = c i * w i k; rw [if_pos (by omega)]), this]
        decide
theorem indep_le {N M : Nat} {w : Nat → Nat → cF} (h : ∀ c : Nat → cF, (∀ k, k < M → lc N c w k = 0) → ∀ i, i < N → c i = 0) : N ≤ M := by
  apply Classical.byContradiction
  intro hn
  obtain ⟨c, ⟨i, hi, hc⟩, hk⟩ := dep M w
  have := h (fun i => if i ≤ M then c i else 0) (fun k hk' => by
    unfold lc
    rw [gs_ext (n := M + 1) (by omega) (fun i h1 h2 => by show (if i ≤ M then c i else 0) * w i k = 0; rw [if_neg (by omega), gs_z1])]
    have := hk k hk'
    unfold lc at this
    rw [gs_congr (g := fun i => c i * w i k) (fun i hi => by show (if i ≤ M then c i else 0) * w i k = c i * w i k; rw [if_pos (by omega)]), this]) i (by omega)
  have e : (if i ≤ M then c i else 0) = c i := if_pos hi
  exact hc (e.symm.trans this)
/-- rows in steps, one for them all: a base of V -/
def isRB (n r : Nat) (h : Nat → Nat) (B : Nat → Nat → cF) (V : (Nat → cF) → Prop) : Prop :=
  (∀ i j, i < j → j < r → h i < h j) ∧ (∀ i, i < r → h i < n) ∧ (∀ i, i < r → B i (h i) = 1) ∧ (∀ i j, i < r → j < r → i ≠ j → B i (h j) = 0) ∧ (∀ i c, i < r → c < h i → B i c = 0) ∧ (∀ i, i < r → V (B i)) ∧ (∀ v, V v → ∀ k, k < n → v k = gs r fun i => v (h i) * B i k)
theorem isRB_lead {n r : Nat} {h : Nat → Nat} {B : Nat → Nat → cF} {V : (Nat → cF) → Prop} (a : isRB n r h B V) {v : Nat → cF} (hv : V v) {c : Nat} (hc : c < n) (nz : v c ≠ 0) (ld : ∀ c', c' < c → v c' = 0) : ∃ i, i < r ∧ h i = c := by
  obtain ⟨a1, a2, a3, a4, a5, a6, a7⟩ := a
  apply Classical.byContradiction
  intro hn
  apply nz
  rw [a7 v hv c hc]
  refine gs_zero fun i hi => ?_
  have hne : h i ≠ c := fun e => hn ⟨i, hi, e⟩
  by_cases q : h i < c
  · rw [ld _ q, gs_z1]
  · rw [a5 i c hi (by omega), gs_z3]
theorem inc_uniq {r r' : Nat} {h h' : Nat → Nat} (i1 : ∀ i j, i < j → j < r → h i < h j) (i2 : ∀ i j, i < j → j < r' → h' i < h' j) (s1 : ∀ i, i < r → ∃ j, j < r' ∧ h' j = h i) (s2 : ∀ j, j < r' → ∃ i, i < r ∧ h i = h' j) : ∀ i, i < r → i < r' ∧ h' i = h i := by
  intro i
  induction i using Nat.strongRecOn with
  | _ i ih =>
    intro hi
    obtain ⟨j, hj, ej⟩ := s1 i hi
    have hij : i ≤ j := by
      apply Classical.byContradiction
      intro q
      have := (ih j (by omega) (by omega)).2
      have := i1 j i (by omega) hi
      omega
    refine ⟨by omega, ?_⟩
    obtain ⟨k, hk, ek⟩ := s2 i (by omega)
    have hik : i ≤ k := by
      apply Classical.byContradiction
      intro q
      have := (ih k (by omega) hk).2
      have := i2 k i (by omega) (by omega)
      omega
    have l1 : h' i ≤ h' j := by
      by_cases e : i = j
      · rw [e]; exact Nat.le_refl _
      · exact Nat.le_of_lt (i2 i j (by omega) hj)
    have l2 : h i ≤ h k := by
      by_cases e : i = k
      · rw [e]; exact Nat.le_refl _
      · exact Nat.le_of_lt (i1 i k (by omega) hk)
    omega
theorem isRB_uniq {n r r' : Nat} {h h' : Nat → Nat} {B B' : Nat → Nat → cF} {V : (Nat → cF) → Prop} (a : isRB n r h B V) (b : isRB n r' h' B' V) : r = r' ∧ ∀ i, i < r → h i = h' i ∧ ∀ k, k < n → B i k = B' i k := by
  have one : ∀ x : cF, x = 1 → x ≠ 0 := fun x e => by rw [e]; exact f_one_ne
  have s1 : ∀ i, i < r → ∃ j, j < r' ∧ h' j = h i := fun i hi => isRB_lead b (a.2.2.2.2.2.1 i hi) (a.2.1 i hi) (one _ (a.2.2.1 i hi)) fun c hc => a.2.2.2.2.1 i c hi hc
  have s2 : ∀ j, j < r' → ∃ i, i < r ∧ h i = h' j := fun i hi => isRB_lead a (b.2.2.2.2.2.1 i hi) (b.2.1 i hi) (one _ (b.2.2.1 i hi)) fun c hc => b.2.2.2.2.1 i c hi hc
  have u := inc_uniq a.1 b.1 s1 s2
  have u' := inc_uniq b.1 a.1 s2 s1
  have er : r = r' := by
    apply Nat.le_antisymm
    · apply Classical.byContradiction
      intro q
      have := (u r' (by omega)).1
      omega
    · apply Classical.byContradiction
      intro q
      have := (u' r (by omega)).1
      omega
  refine ⟨er, fun i hi => ⟨(u i hi).2.symm, fun k hk => ?_⟩⟩
  rw [b.2.2.2.2.2.2 (B i) (a.2.2.2.2.2.1 i hi) k hk]
  have hi' : i < r' := by omega
  rw [gs_one hi' (fun j hj he => by
    show B i (h' j) * B' j k = 0
    rw [(u j (by omega)).2, a.2.2.2.1 i j hi (by omega) (fun e => he e.symm), gs_z1])]
  show B i (h' i) * B' i k = B' i k
  rw [(u i hi).2, a.2.2.1 i hi, gs_z2]
