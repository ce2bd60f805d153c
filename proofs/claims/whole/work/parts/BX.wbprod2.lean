/-! Grade.beginProducts, as a whole -/
section WBQ
variable {d : Nat} {z : cm_Z} {I : cm_I}
def bpP (i many size : Nat) (z : cm_Z) (I I1 : cm_I) (z1 : cm_Z) : Prop := wz z1 ∧ gw z1 ∧ zg [73 + 7 * i] z z1 ∧ us z z1 ∧ ((many : Int) * size ≤ z1.2.1 (gG z1 i 2) ∧ 4 * (size : Int) ≤ z1.2.1 (gG z1 i 3) ∧ (size : Int) * size ≤ z1.2.1 (gG z1 i 4) ∧ (size : Int) ≤ z1.2.1 (gG z1 i 5)) ∧ (∀ k', k' < 97 → (∀ j, 2 ≤ j → j < 6 → k' ≠ 1 + 6 * i + j) → gR z1 k' = gR z k') ∧ (∀ c, c < zN z → c ≠ 73 + 7 * i → c ≠ gG z i 5 → I1 c = I c) ∧ I1 (73 + 7 * i) = (fun j => if j = 6 then 0 else I (73 + 7 * i) j) ∧ (∀ s : Int, s ≠ 7 → s ≠ 8 → s ≠ 9 → s ≠ 10 → z1.1 (73 + 7 * i) s = z.1 (73 + 7 * i) s) ∧ (∀ x : Nat, x < size → I1 (gG z1 i 5) (x : Int) = x) ∧ (∀ j, 2 ≤ j → j < 6 → gG z1 i j = gG z i j ∨ zN z ≤ gG z1 i j) ∧ (okR (I (gG z i 4)) → okR (I1 (gG z1 i 4)))
theorem t_beginProducts (hz : wz z) (hg : gw z) {i many size : Nat} (hi : i < 16) (hm : many = i + 1 ∨ many = (i + 1) * (i + 2) / 2) (hs : size ≤ many) (v2 : I (73 + 7 * i) 2 = (many : Int)) (v3 : I (73 + 7 * i) 3 = (size : Int)) : zcU (d + 2) m_Grade_beginProducts [vR 2 (73 + 7 * i)] z I (bpP i many size z I) := by
  have w6 : 248 ≤ zN z := hz.2.2.2.2.2
  obtain ⟨m1, m2⟩ := m136 i hi
  have mb : many ≤ 136 := by omega
  have q1 := gk_2 i hi 2 (by decide) (by decide)
  have q2 := gk_4 i hi 3 (by decide) rfl
  have q3 := gk_2 i hi 4 (by decide) (by decide)
  have q4 := gk_3 i hi 5 (by decide) (by decide)
  have ms : (many : Int) * size = ((many * size : Nat) : Int) := by omega
  have mm : (many : Int) * many = ((many * many : Nat) : Int) := by omega
  have ss : (size : Int) * size = ((size * size : Nat) : Int) := by omega
  have s4 : 4 * (size : Int) = ((4 * size : Nat) : Int) := by omega
  have m4 : 4 * (many : Int) = ((4 * many : Nat) : Int) := by omega
  have b1 : many * size ≤ many * many := Nat.mul_le_mul_left _ hs
  have b2 : many * many ≤ 18496 := Nat.le_trans (Nat.mul_le_mul mb mb) (by decide)
  have b3 : size * size ≤ many * many := Nat.mul_le_mul hs hs
  refine wr_Grade_beginProducts hz (by omega) rfl fun I1 e1 => ?_
  obtain ⟨f1, g1⟩ := fr_eq_iu e1
  have u2 : I1 (73 + 7 * i) 2 = (many : Int) := by
    rw [g1]
    show (if (2 : Int) = 6 then 0 else I (73 + 7 * i) 2) = _
    rw [if_neg (by decide)]; exact v2
  have u3 : I1 (73 + 7 * i) 3 = (size : Int) := by
    rw [g1]
    show (if (3 : Int) = 6 then 0 else I (73 + 7 * i) 3) = _
    rw [if_neg (by decide)]; exact v3
  rw [u2, u3, ms, mm]
  refine ⟨by unfold cm_i; omega, by unfold cm_i; omega, ?_⟩
  refine zcA_mono (t_room1 (d := d) hz hg hi (j := 2) (s := 7) (by decide) rfl b1 (by rw [q1.1, q1.2]; rcases hm with h | h <;> rw [h]; exact Or.inl rfl; exact Or.inr rfl) rfl) fun v6 I4 Z5 h Z7 e7 => ?_
  obtain ⟨A1, A2, A3, A4, A5, A6, A7, A8, A9, A10⟩ := h Z7 e7
  have a7 := A7 (73 + 7 * i) (by omega)
  rw [a7, u2, u3, s4, m4]
  refine ⟨by unfold cm_i; omega, by unfold cm_i; omega, ?_⟩
  refine zcA_mono (t_room1 (d := d) A1 A2 hi (j := 3) (s := 8) (by decide) rfl (need := 4 * size) (most := 4 * many) (by omega) (by rw [q2.1, q2.2]; rcases hm with h | h <;> rw [h]; exact Or.inl rfl; exact Or.inr rfl) rfl) fun v12 I10 Z11 h Z13 e13 => ?_
  obtain ⟨B1, B2, B3, B4, B5, B6, B7, B8, B9, B10⟩ := h Z13 e13
  have N1 : zN z ≤ zN Z7 := A3.2.2
  have N2 : zN Z7 ≤ zN Z13 := B3.2.2
  have b7 := (B7 (73 + 7 * i) (by omega)).trans a7
  rw [b7, u2, u3, ss, mm]
  refine ⟨by unfold cm_i; omega, by unfold cm_i; omega, ?_⟩
  refine zcA_mono (t_room1 (d := d) B1 B2 hi (j := 4) (s := 9) (by decide) rfl (need := size * size) (most := many * many) b3 (by rw [q3.1, q3.2]; rcases hm with h | h <;> rw [h]; exact Or.inl rfl; exact Or.inr rfl) rfl) fun v18 I16 Z17 h Z19 e19 => ?_
  obtain ⟨C1, C2, C3, C4, C5, C6, C7, C8, C9, C10⟩ := h Z19 e19
  have N3 : zN Z13 ≤ zN Z19 := C3.2.2
  have c7 := (C7 (73 + 7 * i) (by omega)).trans b7
  rw [c7, u2, u3]
  refine zcA_mono (t_room1 (d := d) C1 C2 hi (j := 5) (s := 10) (by decide) rfl (need := size) (most := many) hs (by rw [q4.1, q4.2]; exact hm) rfl) fun v22 I20 Z21 h Z23 e23 => ?_
  obtain ⟨E1, E2, E3, E4, E5, E6, E7, E8, E9, E10⟩ := h Z23 e23
  have N4 : zN Z19 ≤ zN Z23 := E3.2.2
  have d7 := (E7 (73 + 7 * i) (by omega)).trans c7
  have k2 : 1 + 6 * i + 2 < 97 := by omega
  have k3 : 1 + 6 * i + 3 < 97 := by omega
  have k4 : 1 + 6 * i + 4 < 97 := by omega
  have k5 : 1 + 6 * i + 5 < 97 := by omega
  have G2 : gG Z23 i 2 = gG Z7 i 2 := ((E6 _ k2 (by omega)).trans (C6 _ k2 (by omega))).trans (B6 _ k2 (by omega))
  have G3 : gG Z23 i 3 = gG Z13 i 3 := (E6 _ k3 (by omega)).trans (C6 _ k3 (by omega))
  have G4 : gG Z23 i 4 = gG Z19 i 4 := E6 _ k4 (by omega)
  have l2 : gG Z7 i 2 < zN Z7 := (A2.2.1 _ k2).2.1
  have l3 : gG Z13 i 3 < zN Z13 := (B2.2.1 _ k3).2.1
  have l4 : gG Z19 i 4 < zN Z19 := (C2.2.1 _ k4).2.1
  have P3 : gG Z7 i 3 = gG z i 3 := A6 _ k3 (by omega)
  have P4 : gG Z13 i 4 = gG z i 4 := (B6 _ k4 (by omega)).trans (A6 _ k4 (by omega))
  have P5 : gG Z19 i 5 = gG z i 5 := ((C6 _ k5 (by omega)).trans (B6 _ k5 (by omega))).trans (A6 _ k5 (by omega))
  have o5 : gG Z23 i 5 ≠ 73 + 7 * i := gw_gr E2 hi k5
  have Io : ∀ c, c < zN z → c ≠ 73 + 7 * i → I20 c = I c := fun c hc hn => by
    rw [E7 c (by omega), C7 c (by omega), B7 c (by omega), A7 c (by omega)]
    exact f1 c (by simpa using hn)
  have qo : Z23.1 (73 + 7 * i) 10 = gG Z23 i 5 := (gG_at (s := 10) hi (by decide) rfl).symm
  have Lp : ∀ (u x : Nat) (J : cm_I), x + u = size → fr [gG Z23 i 5] I20 J → (∀ y : Nat, y < x → J (gG Z23 i 5) (y : Int) = y) → cw (d + 1) cd_Grade_beginProducts (kU (bpP i many size z I)) 107 [some (vR 2 (73 + 7 * i)), some (vI (x : Int))] [] (J, Z23) := by
    intro u
    induction u with
    | zero =>
      intro x J ex hf hv
      have ja : J (73 + 7 * i) = I20 (73 + 7 * i) := hf _ (by simp; exact fun e => o5 e.symm)
      refine wr_Grade_beginProducts_107 E1 (by omega) qo (gw_pos E2 k5) ?_
      rw [ja, d7, u3]
      refine ⟨fun _ => kU_mk ⟨E1, E2, zg_trans (zg_trans (zg_trans A3 B3) C3) E3, us_trans (us_trans (us_trans A4 B4) C4) E4, ⟨?_, ?_, ?_, E5⟩, fun k' hk hn => ?_, fun c hc h1 h2 => ?_, by rw [ja, d7]; exact g1, fun s h1 h2 h3 h4 => ?_, fun y hy => hv y (by omega), fun j j2 j6 => ?_, fun ok => ?_⟩, fun w => by omega⟩
      · rw [G2, E3.2.1 _ (by omega), C3.2.1 _ (by omega), B3.2.1 _ l2, ms]; exact A5
      · rw [G3, E3.2.1 _ (by omega), C3.2.1 _ l3, s4]; exact B5
      · rw [G4, E3.2.1 _ l4, ss]; exact C5
      · exact (((E6 k' hk (hn 5 (by decide) (by decide))).trans (C6 k' hk (hn 4 (by decide) (by decide)))).trans (B6 k' hk (hn 3 (by decide) (by decide)))).trans (A6 k' hk (hn 2 (by decide) (by decide)))
      · rw [hf c (by
          simp
          intro e
          rcases E9 with w | w
          · rw [w, P5] at e; exact h2 e
          · omega)]
        exact Io c hc h1
      · exact (((E8 s h4).trans (C8 s h3)).trans (B8 s h2)).trans (A8 s h1)
      · have : j = 2 ∨ j = 3 ∨ j = 4 ∨ j = 5 := by omega
        rcases this with e | e | e | e <;> rw [e]
        · rw [G2]; exact A9
        · rw [G3]
          rcases B9 with w | w
          · exact Or.inl (w.trans P3)
          · exact Or.inr (by omega)
        · rw [G4]
          rcases C9 with w | w
          · exact Or.inl (w.trans P4)
          · exact Or.inr (by omega)
        · rcases E9 with w | w
          · exact Or.inl (w.trans P5)
          · exact Or.inr (by omega)
      · have n45 : gG Z23 i 4 ≠ gG Z23 i 5 := E2.2.2.1 _ _ k4 k5 (by omega)
        have l4z : gG z i 4 < zN z := (hg.2.1 _ k4).2.1
        rw [hf _ (by simpa using n45), G4, E7 _ l4]
        refine C10 ?_
        rw [P4, B7 _ (by omega), A7 _ l4z, f1 (gG z i 4) (fun m => gw_gr hg hi k4 (List.mem_singleton.mp m))]
        exact ok
    | succ u ih =>
      intro x J ex hf hv
      have ja : J (73 + 7 * i) = I20 (73 + 7 * i) := hf _ (by simp; exact fun e => o5 e.symm)
      refine wr_Grade_beginProducts_107 E1 (by omega) qo (gw_pos E2 k5) ?_
      rw [ja, d7, u3]
      refine ⟨fun w => by omega, fun _ => ⟨⟨by omega, by omega⟩, fun J2 e2 => ⟨by unfold cm_i; omega, ?_⟩⟩⟩
      obtain ⟨f2, g2⟩ := fr_eq_iu e2
      have := ih (x + 1) J2 (by omega) (fr_trans hf f2) fun y hy => ?_
      · exact this
      · rw [g2]
        show (if (y : Int) = (x : Int) then (x : Int) else J _ (y : Int)) = _
        by_cases w : y = x
        · rw [if_pos (by omega), w]
        · rw [if_neg (by omega)]; exact hv y (by omega)
  exact Lp size 0 I20 (by omega) (fr_refl _ _) fun y hy => absurd hy (by omega)
end WBQ
