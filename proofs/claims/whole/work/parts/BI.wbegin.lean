/-! Echelon.begin, Grade.beginBase, Bases.begin -/
theorem gR_0 (z : cm_Z) : gR z 0 = z.1 63 2 := rfl
theorem gw_pos {z : cm_Z} (hg : gw z) {k : Nat} (hk : k < 97) : 0 < gR z k := by
  have := (hg.2.1 k hk).1
  have := (gT_ok k hk).2.2.2.2.1
  omega
theorem gI_out : ∀ k, k < 97 → gI k ∉ [63, 65, 66, 67, 69, 70] := by decide
theorem gw_out {z : cm_Z} (hg : gw z) {k : Nat} (hk : k < 97) : gR z k ∉ [63, 65, 66, 67, 69, 70] := by
  rcases (hg.2.1 k hk).1 with e | e
  · rw [e]; exact gI_out k hk
  · intro m
    have : ∀ x, x ∈ [63, 65, 66, 67, 69, 70] → x < 248 := by decide
    have := this _ m
    omega
theorem okR_0 : okR (fun _ => 0) := fun _ => ⟨Int.le_refl 0, (by decide : (0 : Int) < 2521)⟩
theorem gk_1 : ∀ i, i < 16 → ∀ j, j < 6 → gO (1 + 6 * i + j) = 73 + 7 * i ∧ gL (1 + 6 * i + j) = (if j < 2 then 4 + j else 5 + j) := by decide
theorem gk_2 : ∀ i, i < 16 → ∀ j, j < 6 → (j = 0 ∨ j = 2 ∨ j = 4) → gP (1 + 6 * i + j) = (i + 1) * (i + 1) ∧ gQ (1 + 6 * i + j) = ((i + 1) * (i + 2) / 2) * ((i + 1) * (i + 2) / 2) := by decide
theorem gk_3 : ∀ i, i < 16 → ∀ j, j < 6 → (j = 1 ∨ j = 5) → gP (1 + 6 * i + j) = (i + 1) ∧ gQ (1 + 6 * i + j) = ((i + 1) * (i + 2) / 2) := by decide
theorem gk_4 : ∀ i, i < 16 → ∀ j, j < 6 → j = 3 → gP (1 + 6 * i + j) = 4 * (i + 1) ∧ gQ (1 + 6 * i + j) = 4 * ((i + 1) * (i + 2) / 2) := by decide
theorem m136 : ∀ i, i < 16 → (i + 1) ≤ 136 ∧ (i + 1) * (i + 2) / 2 ≤ 136 := by decide
section WBG
variable {d : Nat} {z : cm_Z} {I : cm_I}
theorem t_ecBegin (hz : wz z) (hg : gw z) {n : Nat} {x : Int} (hx : (x = 0 ∧ n ≤ 153) ∨ (x = 1 ∧ n ≤ 18)) (hq : okR (I (z.1 63 2))) : zcU (d + 2) m_Echelon_begin [vR 1 63, vI (n : Int), vI x] z I fun I1 z1 => wz z1 ∧ gw z1 ∧ zg [63] z z1 ∧ (∀ i, i ≠ 2 → z1.1 63 i = z.1 63 i) ∧ (∀ k', k' < 97 → k' ≠ 0 → gR z1 k' = gR z k') ∧ us z z1 ∧ (n : Int) * n ≤ z1.2.1 (z1.1 63 2) ∧ (∀ c, c < zN z → c ∉ [63, 65] → I1 c = I c) ∧ ecS n 0 (fun _ => 0) (z1.1 63 2) I1 ∧ (z1.1 63 2 = z.1 63 2 ∨ zN z ≤ z1.1 63 2) := by
  have w6 : 248 ≤ zN z := hz.2.2.2.2.2
  have qo : z.1 63 2 ∉ [63, 65, 66, 67, 69, 70] := gw_out hg (k := 0) (by decide)
  have qN : z.1 63 2 < zN z := (hg.2.1 0 (by decide)).2.1
  refine wr_Echelon_begin hz rfl fun I1 e1 I2 e2 => mU_mono (t_fill hz (by decide) (wz_L hz 65 153 rfl (by decide)) (by decide) (by decide)) fun I3 e3 => ?_
  obtain ⟨f1, g1⟩ := fr_eq_iu e1
  obtain ⟨f2, g2⟩ := fr_eq_iu e2
  obtain ⟨f3, g3⟩ := fr_eq_iw e3
  have f : fr [63, 65] I I3 := fr_trans (fr_mono (fr_trans f1 f2) (by decide)) (fr_mono f3 (by decide))
  have fin : ∀ (need : Nat) (I4 : cm_I) (z7 : cm_Z), n * n ≤ need → gwP 0 need z I3 I4 z7 → wz z7 ∧ gw z7 ∧ zg [63] z z7 ∧ (∀ i, i ≠ 2 → z7.1 63 i = z.1 63 i) ∧ (∀ k', k' < 97 → k' ≠ 0 → gR z7 k' = gR z k') ∧ us z z7 ∧ (n : Int) * n ≤ z7.2.1 (z7.1 63 2) ∧ (∀ c, c < zN z → c ∉ [63, 65] → I4 c = I c) ∧ ecS n 0 (fun _ => 0) (z7.1 63 2) I4 ∧ (z7.1 63 2 = z.1 63 2 ∨ zN z ≤ z7.1 63 2) := by
    intro need I4 z7 hn ⟨b1, b2, b3, b4, b5, b6, b7, b8, b9⟩
    have hn' : (n : Int) * n ≤ need := by exact_mod_cast hn
    have b5' : (need : Int) ≤ z7.2.1 (z7.1 63 2) := b5
    have b8' : z7.1 63 2 = z.1 63 2 ∨ (zN z ≤ z7.1 63 2 ∧ I4 (z7.1 63 2) = fun _ => 0) := b8
    refine ⟨b1, b2, b3, b4, b6, b9, by omega, fun c hc hn => by rw [b7 c hc]; exact f c hn, ⟨?_, ?_, ?_, fun i hi => absurd hi (by omega), fun c hc => Or.inl ?_, fun i hi => absurd hi (by omega)⟩, b8'.imp id fun x => x.1⟩
    · rw [b7 63 (by omega), f3 63 (by decide), g2]
      show (if (0 : Int) = 1 then 0 else I1 63 0) = _
      rw [if_neg (by decide), g1]
      exact if_pos rfl
    · rw [b7 63 (by omega), f3 63 (by decide), g2]
      exact if_pos rfl
    · rcases b8' with e | ⟨_, e⟩
      · rw [e, b7 _ qN, f _ (fun m => qo (by simp at m; rcases m with m | m <;> rw [m] <;> decide))]
        exact hq
      · rw [e]
        exact okR_0
    · rw [b7 65 (by omega), g3]
      exact if_pos ⟨by omega, by rcases hx with h | h <;> omega⟩
  refine ⟨fun x0 => ?_, fun x0 => ?_⟩
  · refine zcA_mono (t_room hz hg (k := 0) (need := 23409) (most := 23409) (by decide) (by decide) (Or.inr rfl) rfl) fun v I4 Z h z7 e7 => kU_mk (fin 23409 I4 z7 ?_ (h z7 e7))
    have : n ≤ 153 := by omega
    exact Nat.le_trans (Nat.mul_le_mul this this) (by decide)
  · refine zcA_mono (t_room hz hg (k := 0) (need := 324) (most := 324) (by decide) (by decide) (Or.inl rfl) rfl) fun v I4 Z h z7 e7 => kU_mk (fin 324 I4 z7 ?_ (h z7 e7))
    have : n ≤ 18 := by omega
    exact Nat.le_trans (Nat.mul_le_mul this this) (by decide)
/-- a row of a grade, by its slot -/
def gG (z : cm_Z) (i j : Nat) : Nat := gR z (1 + 6 * i + j)
theorem gG_4 {i : Nat} (hi : i < 16) : gG z i 0 = z.1 (73 + 7 * i) 4 := by
  obtain ⟨a, b⟩ := gk_1 i hi 0 (by decide)
  unfold gG gR
  rw [a, b]
  rfl
theorem gG_5 {i : Nat} (hi : i < 16) : gG z i 1 = z.1 (73 + 7 * i) 5 := by
  obtain ⟨a, b⟩ := gk_1 i hi 1 (by decide)
  unfold gG gR
  rw [a, b]
  rfl
theorem t_beginBase (hz : wz z) (hg : gw z) {i many size : Nat} (hi : i < 16) (hm : many = i + 1 ∨ many = (i + 1) * (i + 2) / 2) (hs : size ≤ many) (hq : okR (I (gG z i 0))) (hgr : ∀ k, k < 97 → gR z k ≠ 73 + 7 * i) : zcU (d + 2) m_Grade_beginBase [vR 2 (73 + 7 * i), vI (many : Int), vI (size : Int)] z I fun I1 z1 => wz z1 ∧ gw z1 ∧ zg [73 + 7 * i] z z1 ∧ (∀ s, s ≠ 4 → s ≠ 5 → z1.1 (73 + 7 * i) s = z.1 (73 + 7 * i) s) ∧ us z z1 ∧ (many : Int) * size ≤ z1.2.1 (gG z1 i 0) ∧ (size : Int) ≤ z1.2.1 (gG z1 i 1) ∧ (∀ k', k' < 97 → k' ≠ 1 + 6 * i + 0 → k' ≠ 1 + 6 * i + 1 → gR z1 k' = gR z k') ∧ (∀ c, c < zN z → c ≠ 73 + 7 * i → I1 c = I c) ∧ I1 (73 + 7 * i) = (fun j => if j = 3 then (size : Int) else if j = 2 then (many : Int) else I (73 + 7 * i) j) ∧ okR (I1 (gG z1 i 0)) ∧ (gG z1 i 0 = gG z i 0 ∨ zN z ≤ gG z1 i 0) ∧ (gG z1 i 1 = gG z i 1 ∨ zN z ≤ gG z1 i 1) := by
  have w6 : 248 ≤ zN z := hz.2.2.2.2.2
  obtain ⟨k1, k2⟩ := gk_1 i hi 0 (by decide)
  obtain ⟨l1, l2⟩ := gk_1 i hi 1 (by decide)
  have c0 : 1 + 6 * i + 0 < 97 := by omega
  have c1 : 1 + 6 * i + 1 < 97 := by omega
  obtain ⟨p1, p2⟩ := gk_2 i hi 0 (by decide) (Or.inl rfl)
  obtain ⟨p3, p4⟩ := gk_3 i hi 1 (by decide) (Or.inl rfl)
  obtain ⟨m1, m2⟩ := m136 i hi
  have mb : many ≤ 136 := by omega
  refine wr_Grade_beginBase hz (by omega) rfl fun I1 e1 I2 e2 => ?_
  obtain ⟨f1, g1⟩ := fr_eq_iu e1
  obtain ⟨f2, g2⟩ := fr_eq_iu e2
  have f : fr [73 + 7 * i] I I2 := fr_trans f1 f2
  have v : I2 (73 + 7 * i) = (fun j => if j = 3 then (size : Int) else if j = 2 then (many : Int) else I (73 + 7 * i) j) := by
    rw [g2, g1]
  have v2 : I2 (73 + 7 * i) 2 = (many : Int) := by
    rw [v]
    show (if (2 : Int) = 3 then (size : Int) else if (2 : Int) = 2 then (many : Int) else _) = _
    rw [if_neg (by decide), if_pos rfl]
  have v3 : I2 (73 + 7 * i) 3 = (size : Int) := by
    rw [v]
    exact if_pos rfl
  have ms : (many : Int) * size = ((many * size : Nat) : Int) := by omega
  have mm : (many : Int) * many = ((many * many : Nat) : Int) := by omega
  have b1 : many * size ≤ many * many := Nat.mul_le_mul_left _ hs
  have b2 : many * many ≤ 18496 := Nat.le_trans (Nat.mul_le_mul mb mb) (by decide)
  rw [v2, v3, ms, mm]
  refine ⟨by unfold cm_i; omega, by unfold cm_i; omega, ?_⟩
  refine zcA_mono (t_room hz hg (k := 1 + 6 * i + 0) (need := many * size) (most := many * many) c0 b1 (by rw [p1, p2]; rcases hm with h | h <;> rw [h]; exact Or.inl rfl; exact Or.inr rfl) (by rw [k1, k2]; rfl)) fun v7 I5 Z6 h Z8 e8 => ?_
  have hP := h Z8 (by rw [k1, k2]; exact e8)
  obtain ⟨h1, h2, h3, h4, h5, h6, h7, h8, h9⟩ := hP
  rw [k1, k2] at h4
  rw [k1] at h3
  have u2 : I5 (73 + 7 * i) 2 = (many : Int) := by rw [h7 _ (by omega)]; exact v2
  have u3 : I5 (73 + 7 * i) 3 = (size : Int) := by rw [h7 _ (by omega)]; exact v3
  rw [u2, u3]
  refine zcA_mono (t_room h1 h2 (k := 1 + 6 * i + 1) (need := size) (most := many) c1 hs (by rw [p3, p4]; exact hm) (by rw [l1, l2]; rfl)) fun v11 I9 Z10 h' Z12 e12 => kU_mk ?_
  have hP' := h' Z12 (by rw [l1, l2]; exact e12)
  obtain ⟨a1, a2, a3, a4, a5, a6, a7, a8, a9⟩ := hP'
  rw [l1, l2] at a4
  rw [l1] at a3
  have rr : gG Z12 i 0 = gG Z8 i 0 := a6 _ c0 (by omega)
  have rN : gG Z8 i 0 < zN Z8 := (h2.2.1 _ c0).2.1
  have NN : zN z ≤ zN Z8 := h3.2.2
  refine ⟨a1, a2, zg_trans h3 a3, fun s s4 s5 => ?_, us_trans h9 a9, ?_, a5, fun k' hk n0 n1 => (a6 k' hk n1).trans (h6 k' hk n0), fun c hc hn => ?_, ?_, ?_, ?_, ?_⟩
  · rw [a4 s (by simpa using s5), h4 s (by simpa using s4)]
  · rw [rr, a3.2.1 _ rN]
    exact h5
  · rw [a7 c (by omega), h7 c hc]
    exact f c (by simpa using hn)
  · rw [a7 _ (by omega), h7 _ (by omega)]
    exact v
  · rw [rr, a7 _ rN]
    rcases h8 with e | ⟨_, e⟩
    · have e' : gG Z8 i 0 = gG z i 0 := e
      have n0 : gG z i 0 ≠ 73 + 7 * i := hgr _ c0
      have N0 : gG z i 0 < zN z := (hg.2.1 _ c0).2.1
      rw [e', h7 _ N0, f _ (by simpa using n0)]
      exact hq
    · have e' : I5 (gG Z8 i 0) = fun _ => 0 := e
      rw [e']
      exact okR_0
  · rw [rr]
    exact h8.imp id fun x => x.1
  · have e1 : gR Z8 (1 + 6 * i + 1) = gR z (1 + 6 * i + 1) := h6 _ c1 (by omega)
    rcases a8 with e | ⟨e, _⟩
    · exact Or.inl (e.trans e1)
    · exact Or.inr (Nat.le_trans NN e)
theorem gI_gr : ∀ i, i < 16 → ∀ k, k < 97 → gI k ≠ 73 + 7 * i := by decide
theorem gw_gr (hg : gw z) {i k : Nat} (hi : i < 16) (hk : k < 97) : gR z k ≠ 73 + 7 * i := by
  rcases (hg.2.1 k hk).1 with e | e
  · rw [e]; exact gI_gr i hi k hk
  · omega
end WBG
