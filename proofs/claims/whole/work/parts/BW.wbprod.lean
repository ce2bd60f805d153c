/-! Grade.beginProducts -/
section WBR
variable {d : Nat} {z : cm_Z} {I : cm_I}
theorem gG_at {i j s : Nat} (hi : i < 16) (hj : j < 6) (es : s = if j < 2 then 4 + j else 5 + j) : gG z i j = z.1 (73 + 7 * i) (s : Int) := by
  obtain ⟨a, b⟩ := gk_1 i hi j hj
  unfold gG gR
  rw [a, b, es]
/-- row j of grade i has grown -/
def g1P (i j need : Nat) (z : cm_Z) (I I1 : cm_I) (z1 : cm_Z) : Prop := wz z1 ∧ gw z1 ∧ zg [73 + 7 * i] z z1 ∧ us z z1 ∧ (need : Int) ≤ z1.2.1 (gG z1 i j) ∧ (∀ k', k' < 97 → k' ≠ 1 + 6 * i + j → gR z1 k' = gR z k') ∧ (∀ c, c < zN z → I1 c = I c) ∧ (∀ s : Int, s ≠ ((if j < 2 then 4 + j else 5 + j : Nat) : Int) → z1.1 (73 + 7 * i) s = z.1 (73 + 7 * i) s) ∧ (gG z1 i j = gG z i j ∨ zN z ≤ gG z1 i j) ∧ (okR (I (gG z i j)) → okR (I1 (gG z1 i j)))
theorem t_room1 (hz : wz z) (hg : gw z) {i j s : Nat} (hi : i < 16) (hj : j < 6) (es : s = if j < 2 then 4 + j else 5 + j) {need most : Nat} (nm : need ≤ most) (hm : most = gP (1 + 6 * i + j) ∨ most = gQ (1 + 6 * i + j)) {q : Nat} (eq : z.1 (73 + 7 * i) (s : Int) = q) : zcA (d + 1) m_Works_withRoom [vR 20 q, vI (need : Int), vI (most : Int)] z I 20 fun v I1 Z => ∀ Z1, Z1 = zr Z (73 + 7 * i) (s : Int) v → g1P i j need z I I1 Z1 := by
  obtain ⟨a, b⟩ := gk_1 i hi j hj
  rw [← es] at b
  refine zcA_mono (t_room (d := d) hz hg (k := 1 + 6 * i + j) (by omega) nm hm (by rw [a, b]; exact eq)) fun v I1 Z h Z1 e => ?_
  obtain ⟨h1, h2, h3, h4, h5, h6, h7, h8, h9⟩ := h Z1 (by rw [a, b]; exact e)
  rw [a] at h3
  rw [a, b, es] at h4
  refine ⟨h1, h2, h3, h9, h5, h6, h7, h4, h8.imp id fun x => x.1, fun ok => ?_⟩
  show okR (I1 (gR Z1 (1 + 6 * i + j)))
  rcases h8 with w | ⟨_, w⟩
  · rw [w, h7 _ (hg.2.1 _ (by omega)).2.1]
    exact ok
  · rw [w]
    exact fun _ => ⟨Int.le_refl 0, by show (0 : Int) < 2521; decide⟩
end WBR
