/-! PrimarySearch: begin, choose -/
section WCH
variable {d : Nat} {z : cm_Z} {I : cm_I}
theorem t_searchBegin (hz : wz z) {sh mb : Nat} (pm : isMb mb) : zcU (d + 1) m_Search_begin [vR 6 185, vR 9 sh, vR 3 mb] z I fun I1 z1 => z1 = zr z 185 2 sh ∧ fr [185] I I1 ∧ I1 185 3 = I mb 2 ∧ I1 185 4 = 0 ∧ I1 185 5 = 0 ∧ ∀ j, j ≠ 3 → j ≠ 4 → j ≠ 5 → I1 185 j = I 185 j := by
  refine wr_Search_begin hz pm fun Z1 e1 I2 e2 I3 e3 I4 e4 => kU_mk ?_
  obtain ⟨f2, g2⟩ := fr_eq_iu e2
  obtain ⟨f3, g3⟩ := fr_eq_iu e3
  obtain ⟨f4, g4⟩ := fr_eq_iu e4
  have v : ∀ j, I4 185 j = if j = 5 then 0 else if j = 4 then 0 else if j = 3 then I mb 2 else I 185 j := by
    intro j
    rw [g4]
    show (if j = 5 then 0 else I3 185 j) = _
    rw [g3]
    show (if j = 5 then 0 else if j = 4 then 0 else I2 185 j) = _
    rw [g2]
  refine ⟨e1, fr_trans (fr_trans f2 f3) f4, ?_, ?_, ?_, fun j h3 h4 h5 => ?_⟩
  · rw [v, if_neg (by decide), if_neg (by decide), if_pos rfl]
  · rw [v, if_neg (by decide), if_pos rfl]
  · rw [v, if_pos rfl]
  · rw [v, if_neg h5, if_neg h4, if_neg h3]
theorem t_choose (hz : wz z) {w e g ρ N : Nat} (w3 : w < 3) (e83 : e < 83) (g16 : g < 16) (v1 : I 186 (e : Int) = (g : Int)) (v2 : I 187 (e : Int) = (ρ : Int)) (v3 : I (73 + 7 * g) 2 = (N : Int)) (v4 : I (73 + 7 * g) 0 = (g : Int)) (nb : (N : Int) * ρ ≤ 1000000) : zcU (d + 2) m_Search_choose [vR 6 185, vI (w : Int), vI (e : Int)] z I fun I1 z1 => zf [192 + 2 * w] z z1 ∧ fr [190, 191, 192 + 2 * w] I I1 ∧ I1 190 = (fun j => if j = (w : Int) then (g : Int) else I 190 j) ∧ I1 191 = (fun j => if j = (w : Int) then (ρ : Int) else I 191 j) ∧ z1.1 (192 + 2 * w) 0 = gG z g 0 ∧ I1 (192 + 2 * w) 1 = (N : Int) * ρ ∧ I1 (192 + 2 * w) 2 = (g : Int) := by
  have tw : Int.toNat (w : Int) = w := by omega
  have tg : Int.toNat (g : Int) = g := by omega
  have nb0 : 0 ≤ (N : Int) * ρ := Int.mul_nonneg (by omega) (by omega)
  refine wr_Search_choose hz ⟨⟨by omega, by omega⟩, ⟨by omega, by omega⟩, fun I3 e3 I4 e4 => ?_⟩
  obtain ⟨f3, g3⟩ := fr_eq_iu e3
  obtain ⟨f4, g4⟩ := fr_eq_iu e4
  have a190 : I4 190 = (fun j => if j = (w : Int) then (g : Int) else I 190 j) := by
    rw [f4 190 (by decide), g3, v1]
  have a191 : I4 191 = (fun j => if j = (w : Int) then (ρ : Int) else I 191 j) := by
    rw [g4, f3 187 (by decide), f3 191 (by decide), v2]
  have b190 : I4 190 (w : Int) = (g : Int) := by rw [a190]; exact if_pos rfl
  have b191 : I4 191 (w : Int) = (ρ : Int) := by rw [a191]; exact if_pos rfl
  have ff : fr [190, 191] I I4 := fr_trans (fr_mono f3 (by simp)) (fr_mono f4 (by simp))
  have ag : I4 (73 + 7 * g) = I (73 + 7 * g) := ff _ (by simp; omega)
  rw [b190, b191, tw, tg, ag, v3, v4]
  refine ⟨⟨by omega, by omega⟩, by unfold cm_i; omega, ?_⟩
  refine zcU_mono (t_put (d := d) hz (by omega) ((N : Int) * ρ) (g : Int)) fun I7 Z8 ⟨p1, p2, p3, p4, p5⟩ => kU_mk ⟨p1, fr_trans (fr_mono ff (by simp)) (fr_mono p3 (by simp)), ?_, ?_, ?_, p4, p5⟩
  · rw [p3 190 (by simp; omega)]; exact a190
  · rw [p3 191 (by simp; omega)]; exact a191
  · rw [p2, gG_4 g16]
end WCH
