/-! QUESTIONS about the group, as the reference answers them -/
/-- the first below n (n: there is none) -/
def fstB (f : Nat → Bool) : Nat → Nat
  | 0 => 0
  | n + 1 => if fstB f n < n then fstB f n else if f n = true then n else n + 1
theorem fstB_le (f : Nat → Bool) (n : Nat) : fstB f n ≤ n := by
  induction n with
  | zero => exact Nat.le_refl 0
  | succ n ih => rw [fstB]; split <;> (try split) <;> omega
theorem fstB_no {f : Nat → Bool} : ∀ {n k : Nat}, k < fstB f n → f k = false := by
  intro n
  induction n with
  | zero => intro k h; exact absurd h (by simp [fstB])
  | succ n ih =>
    intro k h
    rw [fstB] at h
    have hl := fstB_le f n
    by_cases h1 : fstB f n < n
    · rw [if_pos h1] at h; exact ih h
    · rw [if_neg h1] at h
      by_cases h2 : f n = true
      · rw [if_pos h2] at h; exact ih (by omega)
      · rw [if_neg h2] at h
        by_cases h3 : k = n
        · rw [h3]; exact Bool.eq_false_iff.mpr h2
        · exact ih (by omega)
theorem fstB_at {f : Nat → Bool} : ∀ {n : Nat}, fstB f n < n → f (fstB f n) = true := by
  intro n
  induction n with
  | zero => intro h; omega
  | succ n ih =>
    intro h
    rw [fstB] at h ⊢
    by_cases h1 : fstB f n < n
    · rw [if_pos h1]; exact ih h1
    · rw [if_neg h1] at h ⊢
      by_cases h2 : f n = true
      · rw [if_pos h2]; exact h2
      · rw [if_neg h2] at h; omega
theorem fstB_lt {f : Nat → Bool} {n k : Nat} (hk : k < n) (h : f k = true) : fstB f n < n := by
  have hl := fstB_le f n
  rcases Nat.lt_or_ge (fstB f n) n with q | q
  · exact q
  · have := fstB_no (f := f) (n := n) (k := k) (by omega)
    rw [h] at this
    exact absurd this (by decide)
def allB : Nat → (Nat → Bool) → Bool
  | 0, _ => true
  | n + 1, f => allB n f && f n
theorem allB_iff {n : Nat} {f : Nat → Bool} : allB n f = true ↔ ∀ k, k < n → f k = true := by
  induction n with
  | zero => exact ⟨fun _ k h => by omega, fun _ => rfl⟩
  | succ n ih =>
    rw [allB, Bool.and_eq_true, ih]
    constructor
    · intro h k hk
      by_cases e : k = n
      · rw [e]; exact h.2
      · exact h.1 k (by omega)
    · intro h
      exact ⟨fun k hk => h k (by omega), h n (by omega)⟩
/-- what undoes a member; its order; the least common power; the lots; either order -/
def giv (op : Nat → Nat → Nat) (n g : Nat) : Nat := fstB (fun x => op g x == 0) n
def gord (op : Nat → Nat → Nat) (n g : Nat) : Nat := fstB (fun k => pw op g (k + 1) == 0) n + 1
def glcm (op : Nat → Nat → Nat) (n : Nat) : Nat → Nat
  | 0 => 1
  | g + 1 => Nat.lcm (glcm op n g) (gord op n g)
def gFirst (op : Nat → Nat → Nat) (n h : Nat) : Bool := allB n fun g => decide (h ≤ op (op (giv op n g) h) g)
def gLots (op : Nat → Nat → Nat) (n m : Nat) : Int := sg m fun h => if gFirst op n h = true then 1 else 0
def gEither (op : Nat → Nat → Nat) (m : Nat) : Bool := allB m fun g => allB g fun h => op g h == op h g
section IGQ
variable {n : Nat} {op : Nat → Nat → Nat}
theorem giv_lt (G : isGrp n op) {g : Nat} (hg : g < n) : giv op n g < n ∧ op g (giv op n g) = 0 := by
  obtain ⟨x, x1, x2, x3⟩ := G.2.2.2.2.2 g hg
  have h := fstB_lt (f := fun x => op g x == 0) x1 (by simpa using x2)
  exact ⟨h, beq_iff_eq.mp (fstB_at h)⟩
theorem giv_eq (G : isGrp n op) {g x : Nat} (hg : g < n) (hx : x < n) : op g x = 0 ↔ x = giv op n g := by
  obtain ⟨h1, h2⟩ := giv_lt G hg
  constructor
  · intro e; exact ig_left G hg hx h1 (e.trans h2.symm)
  · intro e; rw [e]; exact h2
theorem gord_ok (G : isGrp n op) {g : Nat} (hg : g < n) : isOrd op g (gord op n g) ∧ gord op n g ≤ n := by
  obtain ⟨k, k1, k2, k3⟩ := ord_some G hg
  have h := fstB_lt (f := fun k => pw op g (k + 1) == 0) (show k - 1 < n by omega) (by rw [show k - 1 + 1 = k by omega]; simpa using k3)
  refine ⟨⟨by unfold gord; omega, beq_iff_eq.mp (fstB_at (f := fun k => pw op g (k + 1) == 0) h), fun i i1 i2 => ?_⟩, h⟩
  have := fstB_no (f := fun k => pw op g (k + 1) == 0) (n := n) (k := i - 1) (by unfold gord at i2; omega)
  rw [show i - 1 + 1 = i by omega] at this
  simpa using this
theorem glcm_dvd (G : isGrp n op) : ∀ {g : Nat}, g ≤ n → glcm op n g ∣ n ∧ 0 < glcm op n g := by
  intro g
  induction g with
  | zero => intro _; exact ⟨Nat.one_dvd n, Nat.one_pos⟩
  | succ g ih =>
    intro hg
    obtain ⟨h1, h2⟩ := ih (by omega)
    have ho := (gord_ok G (show g < n by omega)).1
    exact ⟨Nat.lcm_dvd h1 (ord_dvd G (by omega) ho), Nat.lcm_pos h2 ho.1⟩
end IGQ
/-- the reference's group: n members L -/
def mGs (n : Nat) (L : Nat → cMat) (I : cm_I) : Prop := mD I ∧ I 209 11 = n ∧ n ≤ 48 ∧ (∀ k, k < n → mMem I k = L k) ∧ okR (I 218) ∧ isGrp n (gm n L)
def mGq (n : Nat) (L : Nat → cMat) (I I1 : cm_I) : Prop := ∃ F, I1 = iw I 218 F ∧ mGs n L I1
theorem mGq_refl {n : Nat} {L : Nat → cMat} {I : cm_I} (h : mGs n L I) : mGq n L I I := ⟨I 218, (iw_self I 218).symm, h⟩
theorem mGq_trans {n : Nat} {L : Nat → cMat} {I I1 I2 : cm_I} (h : mGq n L I I1) (h' : mGq n L I1 I2) : mGq n L I I2 := by
  obtain ⟨F, e, _⟩ := h
  obtain ⟨F', e', g⟩ := h'
  exact ⟨F', by rw [e', e, iw_iw], g⟩
section MGQ
variable {d : Nat} {z : cm_Z} {I : cm_I} {n : Nat} {L : Nat → cMat}
theorem s_product (hz : mz z) (G : mGs n L I) {a b : Nat} (ha : a < n) (hb : b < n) : mI (d + 4) m_Model_product [vR 12 209, vI a, vI b] z I fun r I1 => mGq n L I I1 ∧ r = gm n L a b := by
  obtain ⟨hD, g1, g2, g3, g4, g5⟩ := G
  have hD' : I 209 1 = 2 ∨ I 209 1 = 3 := hD
  refine mr_product hz (mU_mono (s_times hz hD mA218 mA218 mA218 (by omega) (by omega) (by omega) (by omega) (by omega) (by omega) (show _ ≤ (441 : Int) by omega) (show _ ≤ (441 : Int) by omega) (show _ ≤ (441 : Int) by omega) (fun _ => by omega) (fun _ => by omega) (by decide) g4 g4) fun I1 e1 => ?_)
  have e9 : I1 209 = I 209 := by rw [e1, iw_ne _ _ (by decide)]
  have e8 : I1 218 = tF (I 209 1) (I 209 11) (mEnt (I 209 1) (I 218) a (I 218) b) (I 209 1) 0 (I 218) := by rw [e1, iw_at]
  have hD1 : mD I1 := by unfold mD; rw [e9]; exact hD
  have ok1 : okR (I1 218) := by rw [e8]; exact tF_ok g4
  have n1 : I1 209 11 = n := by rw [e9]; exact g1
  have mem : ∀ k, k < n → mMem I1 k = L k := by
    intro k hk
    rw [← g3 k hk]
    unfold mMem
    rw [e8, e9, mat_tF_ne hD' (by omega)]
  have cand : mMem I1 n = mm (L a) (L b) := by
    unfold mMem
    rw [e8, e9, g1, mat_tF hD', ← g3 a ha, ← g3 b hb]
    rfl
  refine mI_mono (s_find hz hD1 n1 g2 ok1) fun v I2 ⟨e2, ev⟩ => qI_mk ⟨⟨_, e2.trans e1, by rw [e2]; exact ⟨hD1, n1, g2, mem, ok1, g5⟩⟩, ?_⟩
  rw [ev, cand, gFind_congr mem]
  rfl
theorem s_inverseOf (hz : mz z) (G : mGs n L I) {g : Nat} (hg : g < n) : mI (d + 5) m_Model_inverseOf [vR 12 209, vI g] z I fun r I1 => mGq n L I I1 ∧ r = giv (gm n L) n g := by
  refine mr_inverseOf hz ?_
  have hi := giv_lt G.2.2.2.2.2 hg
  have key : ∀ (m h : Nat) (I0 : cm_I), h + m = giv (gm n L) n g → mGq n L I I0 → cw (d + 4) cd_Model_inverseOf (qI z fun r I1 => mGq n L I I1 ∧ r = giv (gm n L) n g) 2 [some (vR 12 209), some (vI g), some (vI (h : Int))] [] (I0, z) := by
    intro m
    induction m with
    | zero =>
      intro h I0 e hq
      obtain ⟨F, eF, G0⟩ := hq
      refine mr_inverseOf_2 hz (mI_mono (s_product hz G0 hg (show h < n by omega)) fun v I1 ⟨q1, ev⟩ => ?_)
      have e0 : gm n L g h = 0 := by rw [show h = giv (gm n L) n g by omega]; exact hi.2
      refine ⟨fun _ => qI_mk ⟨mGq_trans ⟨F, eF, G0⟩ q1, by omega⟩, fun q => by omega⟩
    | succ m ih =>
      intro h I0 e hq
      obtain ⟨F, eF, G0⟩ := hq
      have h48 := G.2.2.1
      refine mr_inverseOf_2 hz (mI_mono (s_product hz G0 hg (show h < n by omega)) fun v I1 ⟨q1, ev⟩ => ?_)
      refine ⟨fun q => ?_, fun q => ⟨⟨by omega, by omega⟩, ih (h + 1) I1 (by omega) (mGq_trans ⟨F, eF, G0⟩ q1)⟩⟩
      have := (giv_eq G.2.2.2.2.2 hg (show h < n by omega)).mp (by omega)
      omega
  exact key (giv (gm n L) n g) 0 I (by omega) (mGq_refl G)
theorem s_orderOf (hz : mz z) (G : mGs n L I) {g : Nat} (hg : g < n) : mI (d + 5) m_Model_orderOf [vR 12 209, vI g] z I fun r I1 => mGq n L I I1 ∧ r = gord (gm n L) n g := by
  refine mr_orderOf hz ?_
  obtain ⟨ho, hl⟩ := gord_ok G.2.2.2.2.2 hg
  have h48 := G.2.2.1
  have key : ∀ (m k : Nat) (I0 : cm_I), 1 ≤ k → k + m = gord (gm n L) n g → mGq n L I I0 → cw (d + 4) cd_Model_orderOf (qI z fun r I1 => mGq n L I I1 ∧ r = gord (gm n L) n g) 4 [some (vR 12 209), some (vI g), some (vI (k : Int)), some (vI (pw (gm n L) g k : Nat))] [] (I0, z) := by
    intro m
    induction m with
    | zero =>
      intro k I0 k1 e hq
      refine mr_orderOf_4 hz ⟨fun _ => qI_mk ⟨hq, by omega⟩, fun q => ?_⟩
      have := ho.2.1
      rw [← show k = gord (gm n L) n g by omega] at this
      omega
    | succ m ih =>
      intro k I0 k1 e hq
      obtain ⟨F, eF, G0⟩ := hq
      refine mr_orderOf_4 hz ⟨fun q => ?_, fun q => ⟨⟨by omega, by omega⟩, mI_mono (s_product hz G0 (pw_lt G.2.2.2.2.2 hg k) hg) fun v I1 ⟨q1, ev⟩ => ?_⟩⟩
      · exact absurd (show pw (gm n L) g k = 0 by omega) (ho.2.2 k k1 (by omega))
      · rw [ev]
        exact ih (k + 1) I1 (by omega) (by omega) (mGq_trans ⟨F, eF, G0⟩ q1)
  have := key (gord (gm n L) n g - 1) 1 I (by omega) (by have := ho.1; omega) (mGq_refl G)
  rw [pw_one G.2.2.2.2.2 hg] at this
  exact this
theorem s_isMember (hz : mz z) (G : mGs n L I) (g : Int) : mI (d + 2) m_Model_isMember [vR 12 209, vI g] z I fun r I1 => I1 = I ∧ r = if 0 ≤ g ∧ g < n then 1 else 0 := by
  obtain ⟨hD, g1, g2, g3, g4, g5⟩ := G
  have := g5.1
  rw [g1.symm]
  refine mr_isMember hz ⟨⟨by omega, by omega⟩, mI_mono (s_within hz g 0 (I 209 11 - 1)) fun v I1 ⟨e1, ev⟩ => ?_⟩
  by_cases h : 0 ≤ g ∧ g < I 209 11
  · rw [if_pos (by omega)] at ev
    exact ⟨by omega, qI_mk ⟨e1, by rw [if_pos h]; exact ev⟩⟩
  · rw [if_neg (by omega)] at ev
    exact ⟨by omega, qI_mk ⟨e1, by rw [if_neg h]; exact ev⟩⟩
theorem s_divisor (hz : mz z) (a b : Nat) : mI (d + 1) m_Model_divisor [vI a, vI b] z I fun r I1 => I1 = I ∧ r = Nat.gcd a b := by
  refine mr_divisor hz ?_
  have key : ∀ (y x : Nat) (z0 z1 z4 : Option cm_V), Nat.gcd x y = Nat.gcd a b → cw d cd_Model_divisor (qI z fun r I1 => I1 = I ∧ r = Nat.gcd a b) 4 [z0, z1, some (vI (x : Int)), some (vI (y : Int)), z4] [] (I, z) := by
    intro y
    induction y using Nat.strongRecOn with
    | ind y ih =>
      intro x z0 z1 z4 e
      refine mr_divisor_4 hz ⟨fun q => qI_mk ⟨rfl, ?_⟩, fun q => ⟨by omega, ?_⟩⟩
      · rw [← e, show y = 0 by omega, Nat.gcd_zero_right]
      · rw [tmod_pos (by omega), show (x : Int) % (y : Int) = ((x % y : Nat) : Int) by omega]
        refine ih (x % y) (Nat.mod_lt _ (by omega)) y _ _ _ ?_
        rw [← e, Nat.gcd_comm y (x % y), Nat.gcd_comm x y, ← Nat.gcd_rec]
  exact key b a _ _ _ rfl
theorem s_classes (hz : mz z) (G : mGs n L I) : mI (d + 6) m_Model_classes [vR 12 209] z I fun r I1 => mGq n L I I1 ∧ r = gLots (gm n L) n n := by
  refine mr_classes hz ?_
  have h48 := G.2.2.1
  have gg := G.2.2.2.2.2
  have bd : ∀ m, 0 ≤ gLots (gm n L) n m ∧ gLots (gm n L) n m ≤ m := by
    intro m
    refine ⟨sg_nonneg fun i _ => by split <;> omega, ?_⟩
    have := sg_le (n := m) (f := fun h => if gFirst (gm n L) n h = true then (1 : Int) else 0) (B := 1) (fun i _ => by split <;> omega)
    unfold gLots
    omega
  have k17 : ∀ (m g h : Nat) (b : Int) (I0 : cm_I), g + m = n → h < n → (b = if allB g (fun g => decide (h ≤ gm n L (gm n L (giv (gm n L) n g) h) g)) = true then 1 else 0) → mGq n L I I0 → (∀ (I3 : cm_I) (z3 z4 : Option cm_V), mGq n L I I3 → cw (d + 5) cd_Model_classes (qI z fun r I1 => mGq n L I I1 ∧ r = gLots (gm n L) n n) 4 [some (vR 12 209), some (vI (gLots (gm n L) n (h + 1))), some (vI ((h : Int) + 1)), z3, z4] [] (I3, z)) → cw (d + 5) cd_Model_classes (qI z fun r I1 => mGq n L I I1 ∧ r = gLots (gm n L) n n) 17 [some (vR 12 209), some (vI (gLots (gm n L) n h)), some (vI (h : Int)), some (vI b), some (vI (g : Int))] [] (I0, z) := by
    intro m
    induction m with
    | zero =>
      intro g h b I0 e hh hb hq nxt
      have b1 := bd h
      obtain ⟨F, eF, G0⟩ := hq
      have e11 := G0.2.1
      have es : gLots (gm n L) n (h + 1) = gLots (gm n L) n h + b := by
        unfold gLots
        rw [sg_succ, hb, show g = n by omega]
        rfl
      refine mr_classes_17 hz ⟨fun q => ⟨fun q2 => ⟨⟨by omega, by omega⟩, ⟨by omega, by omega⟩, ?_⟩, fun q2 => ⟨⟨by omega, by omega⟩, ⟨by omega, by omega⟩, ?_⟩⟩, fun q => by omega⟩
      · have := nxt I0 (some (vI b)) (some (vI g)) ⟨F, eF, G0⟩
        rw [es, q2] at this
        rw [q2]
        exact this
      · have hb1 : b = 1 := by rw [hb]; rw [hb] at q2; split at q2 <;> (try split) <;> omega
        have := nxt I0 (some (vI b)) (some (vI g)) ⟨F, eF, G0⟩
        rw [es, hb1] at this
        rw [hb1]
        exact this
    | succ m ih =>
      intro g h b I0 e hh hb hq nxt
      have b1 := bd h
      obtain ⟨F, eF, G0⟩ := hq
      have e11 := G0.2.1
      have hg : g < n := by omega
      have hi := giv_lt gg hg
      refine mr_classes_17 hz ⟨fun q => by omega, fun q => ⟨fun q2 => ⟨⟨by omega, by omega⟩, ih (g + 1) h 0 I0 (by omega) hh ?_ ⟨F, eF, G0⟩ nxt⟩, fun q2 => mI_mono (s_inverseOf hz G0 hg) fun v7 I6 ⟨q6, ev7⟩ => ?_⟩⟩
      · rw [q2] at hb
        have hf : allB g (fun g => decide (h ≤ gm n L (gm n L (giv (gm n L) n g) h) g)) = false := by
          apply Bool.eq_false_iff.mpr
          intro ht
          rw [if_pos ht] at hb
          omega
        rw [allB, hf]
        rfl
      · have ht : allB g (fun g => decide (h ≤ gm n L (gm n L (giv (gm n L) n g) h) g)) = true := by
          apply Classical.byContradiction
          intro hn
          rw [if_neg hn] at hb
          exact q2 hb
        obtain ⟨F6, eF6, G6⟩ := q6
        rw [ev7]
        refine mI_mono (s_product hz G6 hi.1 hh) fun v9 I8 ⟨q8, ev9⟩ => ?_
        obtain ⟨F8, eF8, G8⟩ := q8
        rw [ev9]
        refine mI_mono (s_product hz G8 (gg.2.1 _ _ hi.1 hh) hg) fun v11 I10 ⟨q10, ev11⟩ => ?_
        have qq := mGq_trans (mGq_trans (mGq_trans ⟨F, eF, G0⟩ ⟨F6, eF6, G6⟩) ⟨F8, eF8, G8⟩) q10
        refine ⟨fun q3 => ⟨⟨by omega, by omega⟩, ih (g + 1) h 0 I10 (by omega) hh ?_ qq nxt⟩, fun q3 => ⟨⟨by omega, by omega⟩, ih (g + 1) h 1 I10 (by omega) hh ?_ qq nxt⟩⟩
        · rw [allB, ht, decide_eq_false (by omega)]
          rfl
        · rw [allB, ht, decide_eq_true (by omega)]
          rfl
  have k4 : ∀ (m h : Nat) (I0 : cm_I) (z3 z4 : Option cm_V), h + m = n → mGq n L I I0 → cw (d + 5) cd_Model_classes (qI z fun r I1 => mGq n L I I1 ∧ r = gLots (gm n L) n n) 4 [some (vR 12 209), some (vI (gLots (gm n L) n h)), some (vI (h : Int)), z3, z4] [] (I0, z) := by
    intro m
    induction m with
    | zero =>
      intro h I0 z3 z4 e hq
      obtain ⟨F, eF, G0⟩ := hq
      have e11 := G0.2.1
      refine mr_classes_4 hz ⟨fun q => qI_mk ⟨⟨F, eF, G0⟩, by rw [show h = n by omega]⟩, fun q => by omega⟩
    | succ m ih =>
      intro h I0 z3 z4 e hq
      obtain ⟨F, eF, G0⟩ := hq
      have e11 := G0.2.1
      refine mr_classes_4 hz ⟨fun q => by omega, fun q => ?_⟩
      exact k17 n 0 h 1 I0 (by omega) (by omega) rfl ⟨F, eF, G0⟩ fun I3 z3' z4' hq' => ih (h + 1) I3 z3' z4' (by omega) hq'
  exact k4 n 0 I _ _ (by omega) (mGq_refl G)
theorem s_power (hz : mz z) (G : mGs n L I) : mI (d + 6) m_Model_power [vR 12 209] z I fun r I1 => mGq n L I I1 ∧ r = glcm (gm n L) n n := by
  refine mr_power hz ?_
  have h48 := G.2.2.1
  have gg := G.2.2.2.2.2
  have bd : ∀ m, m ≤ n → glcm (gm n L) n m ≤ n ∧ 0 < glcm (gm n L) n m := fun m hm => ⟨Nat.le_of_dvd gg.1 (glcm_dvd gg hm).1, (glcm_dvd gg hm).2⟩
  have key : ∀ (m g : Nat) (I0 : cm_I), g + m = n → mGq n L I I0 → cw (d + 5) cd_Model_power (qI z fun r I1 => mGq n L I I1 ∧ r = glcm (gm n L) n n) 4 [some (vR 12 209), some (vI (glcm (gm n L) n g : Nat)), some (vI (g : Int))] [] (I0, z) := by
    intro m
    induction m with
    | zero =>
      intro g I0 e hq
      obtain ⟨F, eF, G0⟩ := hq
      have e11 := G0.2.1
      refine mr_power_4 hz ⟨fun q => qI_mk ⟨⟨F, eF, G0⟩, by rw [show g = n by omega]⟩, fun q => by omega⟩
    | succ m ih =>
      intro g I0 e hq
      obtain ⟨F, eF, G0⟩ := hq
      have e11 := G0.2.1
      have hg : g < n := by omega
      refine mr_power_4 hz ⟨fun q => by omega, fun q => mI_mono (s_orderOf hz G0 hg) fun v2 I1 ⟨q1, ev2⟩ => ?_⟩
      obtain ⟨F1, eF1, G1⟩ := q1
      rw [ev2]
      refine mI_mono (s_divisor hz _ _) fun v4 I3 ⟨e3, ev4⟩ => ?_
      rw [e3]
      have b0 := bd g (by omega)
      have gp : 0 < Nat.gcd (glcm (gm n L) n g) (gord (gm n L) n g) := Nat.gcd_pos_of_pos_left _ b0.2
      refine ⟨by omega, mI_mono (s_orderOf hz G1 hg) fun v7 I6 ⟨q6, ev7⟩ => ?_⟩
      have b1 := bd (g + 1) (by omega)
      have ev : Int.tdiv (glcm (gm n L) n g : Nat) v4 * v7 = ((glcm (gm n L) n (g + 1) : Nat) : Int) := by
        rw [ev4, ev7, tdiv_pos' (by omega), ← Int.natCast_ediv, ← Int.natCast_mul]
        congr 1
        show _ = Nat.lcm _ _
        rw [Nat.lcm, Nat.div_mul_right_comm (Nat.gcd_dvd_left _ _)]
      rw [ev]
      exact ⟨⟨by omega, by omega⟩, ⟨by omega, by omega⟩, ih (g + 1) I6 (by omega) (mGq_trans (mGq_trans ⟨F, eF, G0⟩ ⟨F1, eF1, G1⟩) q6)⟩
  exact key n 0 I (by omega) (mGq_refl G)
theorem s_commutes (hz : mz z) (G : mGs n L I) : mI (d + 5) m_Model_commutes [vR 12 209] z I fun r I1 => mGq n L I I1 ∧ r = if gEither (gm n L) n = true then 1 else 0 := by
  refine mr_commutes hz ?_
  have h48 := G.2.2.1
  have k12 : ∀ (m h g : Nat) (I0 : cm_I), h + m = g → g < n → gEither (gm n L) g = true → allB h (fun h => gm n L g h == gm n L h g) = true → mGq n L I I0 → (∀ (I3 : cm_I) (z2 : Option cm_V), gEither (gm n L) (g + 1) = true → mGq n L I I3 → cw (d + 4) cd_Model_commutes (qI z fun r I1 => mGq n L I I1 ∧ r = if gEither (gm n L) n = true then 1 else 0) 2 [some (vR 12 209), some (vI ((g : Int) + 1)), z2] [] (I3, z)) → cw (d + 4) cd_Model_commutes (qI z fun r I1 => mGq n L I I1 ∧ r = if gEither (gm n L) n = true then 1 else 0) 12 [some (vR 12 209), some (vI (g : Int)), some (vI (h : Int))] [] (I0, z) := by
    intro m
    induction m with
    | zero =>
      intro h g I0 e hg he ha hq nxt
      refine mr_commutes_12 hz ⟨fun q => ⟨⟨by omega, by omega⟩, nxt I0 _ ?_ hq⟩, fun q => by omega⟩
      rw [show h = g by omega] at ha
      show (gEither (gm n L) g && allB g (fun h => gm n L g h == gm n L h g)) = true
      rw [he, ha]
      rfl
    | succ m ih =>
      intro h g I0 e hg he ha hq nxt
      obtain ⟨F, eF, G0⟩ := hq
      refine mr_commutes_12 hz ⟨fun q => by omega, fun q => mI_mono (s_product hz G0 hg (show h < n by omega)) fun v3 I2 ⟨q2, ev3⟩ => ?_⟩
      obtain ⟨F2, eF2, G2⟩ := q2
      refine mI_mono (s_product hz G2 (show h < n by omega) hg) fun v5 I4 ⟨q4, ev5⟩ => ?_
      have qq := mGq_trans (mGq_trans ⟨F, eF, G0⟩ ⟨F2, eF2, G2⟩) q4
      refine ⟨fun q3 => ⟨⟨by omega, by omega⟩, ih (h + 1) g I4 (by omega) hg he ?_ qq nxt⟩, fun q3 => qI_mk ⟨qq, ?_⟩⟩
      · rw [allB, ha]
        show (gm n L g h == gm n L h g) = true
        rw [beq_iff_eq]
        omega
      · rw [if_neg]
        intro hx
        have := allB_iff.mp (allB_iff.mp hx g hg) h (by omega)
        rw [beq_iff_eq] at this
        omega
  have k2 : ∀ (m g : Nat) (I0 : cm_I) (z2 : Option cm_V), g + m = n → gEither (gm n L) g = true → mGq n L I I0 → cw (d + 4) cd_Model_commutes (qI z fun r I1 => mGq n L I I1 ∧ r = if gEither (gm n L) n = true then 1 else 0) 2 [some (vR 12 209), some (vI (g : Int)), z2] [] (I0, z) := by
    intro m
    induction m with
    | zero =>
      intro g I0 z2 e he hq
      obtain ⟨F, eF, G0⟩ := hq
      have e11 := G0.2.1
      refine mr_commutes_2 hz ⟨fun q => qI_mk ⟨⟨F, eF, G0⟩, ?_⟩, fun q => by omega⟩
      rw [show g = n by omega] at he
      rw [if_pos he]
    | succ m ih =>
      intro g I0 z2 e he hq
      obtain ⟨F, eF, G0⟩ := hq
      have e11 := G0.2.1
      refine mr_commutes_2 hz ⟨fun q => by omega, fun q => ?_⟩
      exact k12 g 0 g I0 (by omega) (by omega) he rfl ⟨F, eF, G0⟩ fun I3 z2' he' hq' => ih (g + 1) I3 z2' (by omega) he' hq'
  exact k2 n 0 I _ (by omega) rfl (mGq_refl G)
end MGQ
