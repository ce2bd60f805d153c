/-! rows that grow when they are too short -/
theorem wz_keep {z z1 : cm_Z} (hz : wz z) (h0 : ∀ a j : Nat, a < 248 → j < 100 → wA (a * 100 + j) ≠ 0 → z1.1 a (j : Int) = z.1 a (j : Int)) (e3 : z1.1 3 = z.1 3) (e68 : z1.1 68 = z.1 68) (e189 : z1.1 189 = z.1 189) (h2 : ∀ a, a < 248 → z1.2.1 a = z.2.1 a) (h3 : zN z ≤ zN z1) : wz z1 := by
  obtain ⟨w1, w2, w3, w4, w5, w6⟩ := hz
  have wa : ∀ a j : Nat, j < 100 → 248 ≤ a → wA (a * 100 + j) = 0 := by
    intro a j hj ha
    generalize hk : a * 100 + j = k
    have : 24800 ≤ k := by omega
    unfold wA
    split <;> first | rfl | omega
  have wl : ∀ a, 248 ≤ a → wL a = 0 := by
    intro a ha
    unfold wL
    split <;> first | rfl | omega
  refine ⟨fun a j hj hw => ?_, fun a ha => ?_, fun i i0 i1 => ?_, fun i i0 i1 => ?_, fun i i0 i1 => ?_, Nat.le_trans w6 h3⟩
  · by_cases q : a < 248
    · rw [h0 a j q hj hw]; exact w1 a j hj hw
    · exact absurd (wa a j hj (by omega)) hw
  · by_cases q : a < 248
    · rw [h2 a q]; exact w2 a ha
    · exact absurd (wl a (by omega)) ha
  · rw [e3, h2 _ (by omega)]; exact w3 i i0 i1
  · rw [e68]; exact w4 i i0 i1
  · rw [e189]; exact w5 i i0 i1
/-- sums of Nat -/
def psN (f : Nat → Nat) : Nat → Nat
  | 0 => 0
  | n + 1 => psN f n + f n
theorem psN_congr {f g : Nat → Nat} : ∀ {n : Nat}, (∀ i, i < n → f i = g i) → psN f n = psN g n
  | 0, _ => rfl
  | n + 1, h => by
    show psN f n + f n = psN g n + g n
    rw [psN_congr fun i hi => h i (by omega), h n (by omega)]
theorem psN_upd {f g : Nat → Nat} {k x : Nat} : ∀ {n : Nat}, k < n → (∀ i, i < n → i ≠ k → g i = f i) → f k + x ≤ g k → psN f n + x ≤ psN g n
  | 0, h, _, _ => absurd h (by omega)
  | n + 1, hk, h, hx => by
    show psN f n + f n + x ≤ psN g n + g n
    by_cases e : n = k
    · have : psN f n = psN g n := psN_congr fun i hi => (h i (by omega) (by omega)).symm
      rw [e] at this ⊢
      omega
    · have := psN_upd (n := n) (by omega) (fun i hi => h i (by omega)) hx
      have := h n (by omega) e
      omega
/-- slots and cells that a row with two ends of growth took at most -/
def ptS (c c' l : Nat) : Nat := 2 * l + (if c ≤ l then c else 0) + (if c' ≤ l then c' else 0)
def ptC (c c' l : Nat) : Nat := (if l = 0 then 0 else Nat.log2 l + 1) + (if c ≤ l then 1 else 0) + (if c' ≤ l then 1 else 0)
theorem ptS_step {c c' l need most : Nat} (h1 : l < need) (h2 : need ≤ most) (h3 : most = c ∨ most = c') : ptS c c' l + max need (min most (2 * l)) ≤ ptS c c' (max need (min most (2 * l))) := by
  unfold ptS
  generalize hm : max need (min most (2 * l)) = l'
  have a1 : l < l' := by omega
  have a2 : 2 * l ≤ l' ∨ l' = most := by omega
  rcases a2 with a2 | a2
  · split <;> split <;> split <;> split <;> omega
  · rcases h3 with h3 | h3
    · rw [if_neg (by omega : ¬ c ≤ l), if_pos (by omega : c ≤ l')]
      split <;> split <;> omega
    · rw [if_neg (by omega : ¬ c' ≤ l), if_pos (by omega : c' ≤ l')]
      split <;> split <;> omega
theorem log2_mono {a b : Nat} (h : a ≤ b) (h0 : a ≠ 0) : Nat.log2 a ≤ Nat.log2 b := by
  rw [Nat.le_log2 (by omega)]
  exact Nat.le_trans (Nat.log2_self_le h0) h
theorem log2_dbl {a b : Nat} (h : 2 * a ≤ b) (h0 : a ≠ 0) : Nat.log2 a + 1 ≤ Nat.log2 b := by
  rw [Nat.le_log2 (by omega), Nat.pow_succ]
  have := Nat.log2_self_le h0
  omega
theorem ptC_step {c c' l need most : Nat} (h1 : l < need) (h2 : need ≤ most) (h3 : most = c ∨ most = c') : ptC c c' l + 1 ≤ ptC c c' (max need (min most (2 * l))) := by
  unfold ptC
  generalize hm : max need (min most (2 * l)) = l'
  have a1 : l < l' := by omega
  rw [if_neg (by omega : ¬ l' = 0)]
  by_cases l0 : l = 0
  · rw [if_pos l0]
    split <;> split <;> split <;> split <;> omega
  rw [if_neg l0]
  have m := log2_mono (Nat.le_of_lt a1) l0
  have a2 : 2 * l ≤ l' ∨ l' = most := by omega
  rcases a2 with a2 | a2
  · have := log2_dbl a2 l0
    split <;> split <;> split <;> split <;> omega
  · rcases h3 with h3 | h3
    · rw [if_neg (by omega : ¬ c ≤ l), if_pos (by omega : c ≤ l')]
      split <;> split <;> omega
    · rw [if_neg (by omega : ¬ c' ≤ l), if_pos (by omega : c' ≤ l')]
      split <;> split <;> omega
/-- the rows that grow: 0 is the echelon's, then six of each grade -/
def gO (k : Nat) : Nat := if k = 0 then 63 else 73 + 7 * ((k - 1) / 6)
def gL (k : Nat) : Nat := if k = 0 then 2 else if (k - 1) % 6 = 0 then 4 else if (k - 1) % 6 = 1 then 5 else (k - 1) % 6 + 5
def gI (k : Nat) : Nat := if k = 0 then 64 else 74 + 7 * ((k - 1) / 6) + (k - 1) % 6
def gT (k m : Nat) : Nat := if (k - 1) % 6 = 1 ∨ (k - 1) % 6 = 5 then m else if (k - 1) % 6 = 3 then 4 * m else m * m
def gP (k : Nat) : Nat := if k = 0 then 324 else gT k ((k - 1) / 6 + 1)
def gQ (k : Nat) : Nat := if k = 0 then 23409 else gT k (((k - 1) / 6 + 1) * ((k - 1) / 6 + 2) / 2)
def gR (z : cm_Z) (k : Nat) : Nat := z.1 (gO k) (gL k : Int)
def potS (z : cm_Z) : Nat := psN (fun k => ptS (gP k) (gQ k) (z.2.1 (gR z k)).toNat) 97
def potC (z : cm_Z) : Nat := psN (fun k => ptC (gP k) (gQ k) (z.2.1 (gR z k)).toNat) 97
def gw (z : cm_Z) : Prop := (248 ≤ z.1 51 2 → z.1 51 2 + 22 ≤ zN z) ∧ (∀ k, k < 97 → (gR z k = gI k ∨ 248 ≤ gR z k) ∧ gR z k < zN z ∧ 0 ≤ z.2.1 (gR z k) ∧ z.2.1 (gR z k) ≤ 23409) ∧ (∀ k k', k < 97 → k' < 97 → k ≠ k' → gR z k ≠ gR z k') ∧ ∀ k i, k < 97 → i < 22 → 248 ≤ z.1 51 2 → gR z k ≠ z.1 51 2 + i
def us (z z1 : cm_Z) : Prop := zC z1 + potC z ≤ zC z + potC z1 ∧ zS z1 + potS z ≤ zS z + potS z1
theorem us_refl (z : cm_Z) : us z z := ⟨Nat.le_refl _, Nat.le_refl _⟩
theorem us_trans {z z1 z2 : cm_Z} (h : us z z1) (h' : us z1 z2) : us z z2 := by
  obtain ⟨a, b⟩ := h
  obtain ⟨c, e⟩ := h'
  unfold us
  omega
theorem gT_ok : ∀ k, k < 97 → gP k ≤ 23409 ∧ gQ k ≤ 23409 ∧ 0 < gP k ∧ 0 < gQ k ∧ 0 < gI k ∧ gI k < 248 ∧ gO k < 248 ∧ gO k ≠ 3 ∧ gO k ≠ 68 ∧ gO k ≠ 189 ∧ gO k ≠ 51 ∧ gL k < 100 ∧ wA (gO k * 100 + gL k) = 0 := by decide
theorem gO_inj {k k' : Nat} (h : gO k = gO k') (h' : gL k = gL k') : k = k' := by
  unfold gO at h
  unfold gL at h'
  by_cases e : k = 0
  · rw [if_pos e] at h
    by_cases e' : k' = 0
    · omega
    · rw [if_neg e'] at h; omega
  · rw [if_neg e] at h h'
    by_cases e' : k' = 0
    · rw [if_pos e'] at h; omega
    · rw [if_neg e'] at h h'
      have a : (k - 1) / 6 = (k' - 1) / 6 := by omega
      have b : (k - 1) % 6 = (k' - 1) % 6 := by
        clear h a
        split at h' <;> split at h' <;> (try split at h') <;> (try split at h') <;> omega
      omega
/-- what stands when row k has grown -/
def gwP (k need : Nat) (z : cm_Z) (I I1 : cm_I) (z1 : cm_Z) : Prop := wz z1 ∧ gw z1 ∧ zg [gO k] z z1 ∧ (∀ i, i ≠ (gL k : Int) → z1.1 (gO k) i = z.1 (gO k) i) ∧ (need : Int) ≤ z1.2.1 (gR z1 k) ∧ (∀ k', k' < 97 → k' ≠ k → gR z1 k' = gR z k') ∧ (∀ c, c < zN z → I1 c = I c) ∧ ((gR z1 k = gR z k) ∨ (zN z ≤ gR z1 k ∧ I1 (gR z1 k) = fun _ => 0)) ∧ us z z1
theorem t_room {d : Nat} {z : cm_Z} {I : cm_I} (hz : wz z) (hg : gw z) {k : Nat} (hk : k < 97) {need most : Nat} (nm : need ≤ most) (hm : most = gP k ∨ most = gQ k) {q : Nat} (eq : z.1 (gO k) (gL k : Int) = q) : zcA (d + 1) m_Works_withRoom [vR 20 q, vI (need : Int), vI (most : Int)] z I 20 fun v I1 Z => ∀ Z1, Z1 = zr Z (gO k) (gL k : Int) v → gwP k need z I I1 Z1 := by
  have e0 : gR z k = q := eq
  obtain ⟨h22, g1, g2, g3⟩ := id hg
  obtain ⟨o1, o2, o3, o4, o5, o6, o7, o8, o9, o10, o11, o12, o13⟩ := gT_ok k hk
  obtain ⟨a1, a2, a3, a4⟩ := g1 k hk
  rw [e0] at a1 a2 a3 a4
  have q0 : 0 < q := by omega
  have w6 : 248 ≤ zN z := hz.2.2.2.2.2
  refine wr_Works_withRoom hz q0 ⟨fun lt => ?_, fun ge => kA_mk ?_⟩
  · have ml : most ≤ 23409 := by rcases hm with h | h <;> omega
    refine ⟨by unfold cm_i; omega, ⟨by omega, by omega⟩, fun I3 Z4 eI eZ => ⟨by omega, kA_mk fun Z1 e1 => ?_⟩⟩
    generalize hL : max (need : Int) (min (most : Int) (2 * z.2.1 q)) = L at eZ
    have r1 : ∀ b, b < zN z → b ≠ gO k → Z1.1 b = z.1 b := by
      intro b hb hn
      rw [e1, eZ]
      show (if b = gO k then _ else if b = zN z then _ else z.1 b) = _
      rw [if_neg hn, if_neg (by omega)]
    have r2 : ∀ i, Z1.1 (gO k) i = if i = (gL k : Int) then zN z else z.1 (gO k) i := by
      intro i
      rw [e1, eZ]
      show (if gO k = gO k then (fun j => if j = (gL k : Int) then zN z else (if gO k = zN z then (fun _ => 0) else z.1 (gO k)) j) else _) i = _
      rw [if_pos rfl, if_neg (by omega : ¬ gO k = zN z)]
    have r3 : ∀ b, Z1.2.1 b = if b = zN z then L else z.2.1 b := by
      intro b
      rw [e1, eZ]
      rfl
    have r4 : zN Z1 = zN z + 1 := by rw [e1, eZ]; rfl
    have r5 : zC Z1 = zC z + 1 := by rw [e1, eZ]; rfl
    have r6 : zS Z1 = zS z + L.toNat := by rw [e1, eZ]; rfl
    have k1 : gR Z1 k = zN z := by
      show Z1.1 (gO k) (gL k : Int) = _
      rw [r2, if_pos rfl]
    have k2 : ∀ k', k' < 97 → k' ≠ k → gR Z1 k' = gR z k' := by
      intro k' h' hn
      show Z1.1 (gO k') (gL k' : Int) = z.1 (gO k') (gL k' : Int)
      by_cases e : gO k' = gO k
      · have ne : gL k' ≠ gL k := fun e' => hn (gO_inj e e')
        rw [e, r2, if_neg (by omega)]
      · rw [r1 _ (by have := (gT_ok k' h').2.2.2.2.2.2.1; omega) e]
    have k3 : ∀ k', k' < 97 → k' ≠ k → Z1.2.1 (gR Z1 k') = z.2.1 (gR z k') := by
      intro k' h' hn
      rw [k2 k' h' hn, r3, if_neg (by have := (g1 k' h').2.1; omega)]
    have k4 : Z1.2.1 (gR Z1 k) = L := by rw [k1, r3, if_pos rfl]
    have hw : wz Z1 := by
      refine wz_keep hz (fun a j ha hj hA => ?_) (r1 3 (by omega) (by omega)) (r1 68 (by omega) (by omega)) (r1 189 (by omega) (by omega)) (fun a ha => by rw [r3, if_neg (by omega)]) (by omega)
      by_cases e : a = gO k
      · rw [e, r2, if_neg]
        intro e'
        have : j = gL k := by omega
        rw [e, this] at hA
        exact hA o13
      · rw [r1 a (by omega) e]
    have hL0 : (need : Int) ≤ L ∧ L ≤ 23409 := by omega
    have e51 : Z1.1 51 = z.1 51 := r1 51 (by omega) (by omega)
    refine ⟨hw, ⟨fun h51 => by rw [e51] at h51 ⊢; have := h22 h51; omega, fun k' h' => ?_, fun k' k'' h' h'' hn => ?_, fun k' i h' hi h51 => ?_⟩, ⟨fun a ha hn => r1 a ha (by simpa using hn), fun a ha => by rw [r3, if_neg (by omega)], by omega⟩, fun i hi => by rw [r2, if_neg hi], by rw [k4]; exact hL0.1, k2, fun c hc => ?_, Or.inr ⟨by omega, ?_⟩, ?_, ?_⟩
    · by_cases e : k' = k
      · rw [e, k4, k1]
        exact ⟨Or.inr w6, by omega, by omega, hL0.2⟩
      · rw [k3 k' h' e, k2 k' h' e]
        obtain ⟨b1, b2, b3⟩ := g1 k' h'
        exact ⟨b1, by omega, b3⟩
    · by_cases e : k' = k
      · rw [e, k1, k2 k'' h'' (by omega)]
        have := (g1 k'' h'').2.1
        omega
      · rw [k2 k' h' e]
        by_cases e' : k'' = k
        · rw [e', k1]
          have := (g1 k' h').2.1
          omega
        · rw [k2 k'' h'' e']
          exact g2 k' k'' h' h'' hn
    · rw [e51] at h51 ⊢
      by_cases e : k' = k
      · rw [e, k1]
        have := h22 h51
        omega
      · rw [k2 k' h' e]
        exact g3 k' i h' hi h51
    · rw [eI]
      exact iw_ne _ _ (by omega)
    · rw [k1, eI]
      exact iw_at _ _ _
    · show zC Z1 + potC z ≤ zC z + potC Z1
      have := psN_upd (f := fun k => ptC (gP k) (gQ k) (z.2.1 (gR z k)).toNat) (g := fun k => ptC (gP k) (gQ k) (Z1.2.1 (gR Z1 k)).toNat) (k := k) (x := 1) hk (fun i hi hn => by show ptC _ _ _ = ptC _ _ _; rw [k3 i hi hn]) (by
        show ptC _ _ (z.2.1 (gR z k)).toNat + 1 ≤ ptC _ _ (Z1.2.1 (gR Z1 k)).toNat
        rw [k4, e0]
        have := ptC_step (c := gP k) (c' := gQ k) (l := (z.2.1 q).toNat) (need := need) (most := most) (by omega) nm hm
        have eL : max need (min most (2 * (z.2.1 q).toNat)) = L.toNat := by omega
        rw [eL] at this
        exact this)
      have e : psN (fun k => ptC (gP k) (gQ k) (z.2.1 (gR z k)).toNat) 97 + 1 ≤ psN (fun k => ptC (gP k) (gQ k) (Z1.2.1 (gR Z1 k)).toNat) 97 := this
      unfold potC
      omega
    · show zS Z1 + potS z ≤ zS z + potS Z1
      have := psN_upd (f := fun k => ptS (gP k) (gQ k) (z.2.1 (gR z k)).toNat) (g := fun k => ptS (gP k) (gQ k) (Z1.2.1 (gR Z1 k)).toNat) (k := k) (x := L.toNat) hk (fun i hi hn => by show ptS _ _ _ = ptS _ _ _; rw [k3 i hi hn]) (by
        show ptS _ _ (z.2.1 (gR z k)).toNat + L.toNat ≤ ptS _ _ (Z1.2.1 (gR Z1 k)).toNat
        rw [k4, e0]
        have := ptS_step (c := gP k) (c' := gQ k) (l := (z.2.1 q).toNat) (need := need) (most := most) (by omega) nm hm
        have eL : max need (min most (2 * (z.2.1 q).toNat)) = L.toNat := by omega
        rw [eL] at this
        exact this)
      unfold potS
      omega
  · intro Z1 e1
    have same : Z1 = z := by
      rw [e1]
      refine Prod.ext (funext fun b => ?_) rfl
      show (if b = gO k then (fun j => if j = (gL k : Int) then q else z.1 (gO k) j) else z.1 b) = z.1 b
      by_cases h : b = gO k
      · rw [if_pos h, h]
        funext j
        by_cases h' : j = (gL k : Int)
        · rw [if_pos h', h', eq]
        · rw [if_neg h']
      · rw [if_neg h]
    rw [same]
    exact ⟨hz, hg, zg_refl _ _, fun _ _ => rfl, by rw [e0]; exact ge, fun _ _ _ => rfl, fun _ _ => rfl, Or.inl rfl, us_refl z⟩
