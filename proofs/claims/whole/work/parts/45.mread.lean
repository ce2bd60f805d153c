/-! READING: what tokens keep -/
theorem tSkF_bd (B : Int → Int) : ∀ (n : Nat) (p : Int), p ≤ tSkF B n p ∧ tSkF B n p ≤ p + n := by
  intro n
  induction n with
  | zero => intro p; exact ⟨Int.le_refl p, by show p ≤ p + _; omega⟩
  | succ n ih =>
    intro p
    rw [tSkF]
    have := ih (p + 1)
    split <;> omega
theorem tDgF_bd (B : Int → Int) : ∀ (n : Nat) (p : Int), p ≤ tDgF B n p ∧ tDgF B n p ≤ p + n ∧ ∀ x, p ≤ x → x < tDgF B n p → 48 ≤ B x % 256 ∧ B x % 256 ≤ 57 := by
  intro n
  induction n with
  | zero =>
    intro p
    refine ⟨Int.le_refl p, by show p ≤ p + _; omega, fun x h1 h2 => ?_⟩
    have h2 : x < p := h2
    omega
  | succ n ih =>
    intro p
    rw [tDgF]
    obtain ⟨i1, i2, i3⟩ := ih (p + 1)
    by_cases h : 48 ≤ B p % 256 ∧ B p % 256 ≤ 57
    · rw [if_pos h]
      refine ⟨by omega, by omega, fun x h1 h2 => ?_⟩
      by_cases e : x = p
      · rw [e]; exact h
      · exact i3 x (by omega) h2
    · rw [if_neg h]
      exact ⟨by omega, by omega, fun x h1 h2 => by omega⟩
theorem tV_bd (B : Int → Int) (b : Int) : ∀ m : Nat, (∀ i : Nat, i < m → 48 ≤ B (b + i) % 256 ∧ B (b + i) % 256 ≤ 57) → 0 ≤ tV B b m ∧ tV B b m ≤ 9999 ∧ (m < 4 → tV B b m ≤ 999) ∧ (m < 3 → tV B b m ≤ 99) ∧ (m < 2 → tV B b m ≤ 9) ∧ (m < 1 → tV B b m = 0) := by
  intro m
  induction m with
  | zero => intro _; refine ⟨?_, ?_, ?_, ?_, ?_, ?_⟩ <;> simp [tV]
  | succ m ih =>
    intro h
    have i := ih fun i hi => h i (by omega)
    have hm := h m (by omega)
    rw [tV]
    by_cases h4 : m < 4
    · rw [if_pos h4]; omega
    · rw [if_neg h4]; omega
theorem gst_at (f : Int → Int) (b nx tk vl : Int) : gst f b nx tk vl 16 = b ∧ gst f b nx tk vl 17 = nx ∧ gst f b nx tk vl 18 = tk ∧ gst f b nx tk vl 19 = vl ∧ ∀ s, s < 16 ∨ 19 < s → gst f b nx tk vl s = f s := by
  refine ⟨rfl, rfl, rfl, rfl, fun s hs => ?_⟩
  unfold gst
  rw [if_neg (by omega), if_neg (by omega), if_neg (by omega), if_neg (by omega)]
/-- the reader stands as it should -/
def rOk (f : Int → Int) : Prop := 0 ≤ f 16 ∧ f 16 ≤ f 17 ∧ f 17 ≤ f 15 ∧ f 15 ≤ 400 ∧ 0 ≤ f 19 ∧ f 19 ≤ 9999
theorem tok_ok {f : Int → Int} (B : Int → Int) (h0 : 0 ≤ f 17) (h1 : f 17 ≤ f 15) (h2 : f 15 ≤ 400) (h3 : 0 ≤ f 19) (h4 : f 19 ≤ 9999) : rOk (tok f B) ∧ (∀ s, s < 16 ∨ 19 < s → tok f B s = f s) ∧ f 17 ≤ tok f B 17 ∧ (tok f B 18 = 0 ∨ tok f B 18 = 1 ∨ tok f B 18 = 2) := by
  have hs := tSkF_bd B (f 15 - f 17).toNat (f 17)
  have hs1 : f 17 ≤ tSk B (f 15) (f 17) ∧ tSk B (f 15) (f 17) ≤ f 15 := by unfold tSk; omega
  unfold tok
  generalize tSk B (f 15) (f 17) = q at hs1 ⊢
  by_cases c1 : f 15 ≤ q
  · rw [if_pos c1]
    obtain ⟨a1, a2, a3, a4, a5⟩ := gst_at f q q 0 (f 19)
    have a6 := a5 15 (by omega)
    exact ⟨⟨by omega, by omega, by omega, by omega, by omega, by omega⟩, a5, by omega, Or.inl a3⟩
  · rw [if_neg c1]
    by_cases c2 : 48 ≤ B q % 256 ∧ B q % 256 ≤ 57
    · rw [if_pos c2]
      obtain ⟨d1, d2, d3⟩ := tDgF_bd B (f 15 - q).toNat q
      have e : tDgF B (f 15 - q).toNat q = tDg B (f 15) q := rfl
      rw [e] at d1 d2 d3
      have v := tV_bd B q (tDg B (f 15) q - q).toNat (fun i hi => d3 (q + i) (by omega) (by omega))
      obtain ⟨a1, a2, a3, a4, a5⟩ := gst_at f q (tDg B (f 15) q) 1 (tV B q (tDg B (f 15) q - q).toNat)
      have a6 := a5 15 (by omega)
      exact ⟨⟨by omega, by omega, by omega, by omega, by omega, by omega⟩, a5, by omega, Or.inr (Or.inl a3)⟩
    · rw [if_neg c2]
      obtain ⟨a1, a2, a3, a4, a5⟩ := gst_at f q (q + 1) 2 (B q % 256)
      have a6 := a5 15 (by omega)
      exact ⟨⟨by omega, by omega, by omega, by omega, by omega, by omega⟩, a5, by omega, Or.inr (Or.inr a3)⟩
/-- the first fault is kept -/
def rBad (f : Int → Int) (k : Int) : Int → Int := fun s => if s = 20 then (if f 20 = 0 then 8 * f 16 + k else f 20) else f s
def rIs (f : Int → Int) (c : Int) : Prop := f 18 = 2 ∧ f 19 = c
section MRE
variable {d : Nat} {z : cm_Z} {I : cm_I}
theorem s_bad (hz : mz z) (h : rOk (I 209)) {k : Int} (k0 : 0 ≤ k) (k1 : k ≤ 7) : mI (d + 1) m_Model_bad [vR 12 209, vI k] z I fun r I1 => I1 = iw I 209 (rBad (I 209) k) ∧ r = 0 := by
  obtain ⟨r1, r2, r3, r4, r5, r6⟩ := h
  refine mr_bad hz ⟨fun q I1 e1 => qI_mk ⟨?_, rfl⟩, fun q => ⟨⟨by omega, by omega⟩, ⟨by omega, by omega⟩, fun I4 e4 => qI_mk ⟨?_, rfl⟩⟩⟩
  · rw [e1, iu_def]
    congr 1
    funext s
    unfold rBad
    rw [if_neg q]
  · rw [e4, iu_def]
    congr 1
    funext s
    unfold rBad
    rw [if_pos q]
theorem s_is (hz : mz z) (c : Int) : mI (d + 1) m_Model_is [vR 12 209, vI c] z I fun r I1 => I1 = I ∧ (r = 0 ∨ r = 1) ∧ (r = 1 ↔ rIs (I 209) c) := by
  refine mr_is hz ⟨fun q => qI_mk ⟨rfl, Or.inl rfl, ?_⟩, fun q => ⟨fun q2 => qI_mk ⟨rfl, Or.inl rfl, ?_⟩, fun q2 => qI_mk ⟨rfl, Or.inr rfl, ?_⟩⟩⟩
  · exact ⟨fun h => absurd h (by decide), fun h => absurd h.1 q⟩
  · exact ⟨fun h => absurd h (by decide), fun h => absurd h.2 q2⟩
  · exact ⟨fun _ => ⟨q, q2⟩, fun _ => rfl⟩
theorem s_sign (hz : mz z) (h : rOk (I 209)) (c : Int) : mI (d + 3) m_Model_sign [vR 12 209, vI c] z I fun r I1 => (r = 1 ∧ rIs (I 209) c ∧ I1 = iw I 209 (tok (I 209) (I 219))) ∨ (r = 0 ∧ ¬ rIs (I 209) c ∧ I1 = iw I 209 (rBad (I 209) 1)) := by
  have h' := h
  obtain ⟨r1, r2, r3, r4, r5, r6⟩ := h
  refine mr_sign hz (mI_mono (s_is hz c) fun v2 I1 ⟨e1, e2, e3⟩ => ?_)
  rw [e1]
  refine ⟨fun q => mU_mono (s_go hz (by omega) (by omega) (by omega)) fun I3 e => qI_mk (Or.inl ⟨rfl, e3.mp (by omega), e⟩), fun q => mI_mono (s_bad hz h' (by omega) (by omega)) fun v5 I4 ⟨e4, ev⟩ => ⟨Or.inl ev, qI_mk (Or.inr ⟨ev, fun hx => ?_, e4⟩)⟩⟩
  have := e3.mpr hx
  omega
theorem s_isNumberNext (hz : mz z) : mI (d + 2) m_Model_isNumberNext [vR 12 209] z I fun r I1 => I1 = I ∧ (r = 0 ∨ r = 1) ∧ (r = 1 ↔ (I 209 18 = 1 ∨ rIs (I 209) 45)) := by
  refine mr_isNumberNext hz ⟨fun q => qI_mk ⟨rfl, Or.inr rfl, ⟨fun _ => Or.inl q, fun _ => rfl⟩⟩, fun q => mI_mono (s_is hz 45) fun v2 I1 ⟨e1, e2, e3⟩ => ?_⟩
  rw [e1]
  refine ⟨fun q2 => qI_mk ⟨rfl, Or.inl rfl, ⟨fun h => absurd h (by decide), fun h => ?_⟩⟩, fun q2 => qI_mk ⟨rfl, Or.inr rfl, ⟨fun _ => Or.inr (e3.mp (by omega)), fun _ => rfl⟩⟩⟩
  rcases h with h | h
  · exact absurd h q
  · have := e3.mpr h; omega
end MRE
