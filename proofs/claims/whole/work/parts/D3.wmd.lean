/-! what the reference does leaves the invariant of the class alone -/
section WMD
variable {z z1 : cm_Z} {I I1 : cm_I} {D : Int} {sh mb : Nat} {T : Nat → cMat} {nt n : Nat} {L : Nat → cMat} {K : Int → Int → Int} {B : Int → Int} {tp : Int} {rf : Option (Int → Int)}
def mdZ (z : cm_Z) (I : cm_I) (z1 : cm_Z) (I1 : cm_I) : Prop := zN z1 = zN z ∧ ∀ a, ¬ sMd a → z1.1 a = z.1 a ∧ z1.2.1 a = z.2.1 a ∧ I1 a = I a
theorem wA_md : ∀ a j : Nat, j < 100 → sMd a → wA (a * 100 + j) = 0 := by
  intro a j hj ha
  generalize hk : a * 100 + j = k
  have : 20900 ≤ k := by have := ha.1; omega
  unfold wA
  split <;> first | rfl | omega
theorem wL_md : ∀ a, sMd a → wL a = 0 := by
  intro a ha
  have := ha.1
  unfold wL
  split <;> first | rfl | omega
theorem wz_md (h : wz z) (e : mdZ z I z1 I1) : wz z1 := by
  obtain ⟨w1, w2, w3, w4, w5, w6⟩ := h
  obtain ⟨eN, e⟩ := e
  refine ⟨fun a j hj hw => ?_, fun a ha => ?_, fun i i0 i1 => ?_, fun i i0 i1 => ?_, fun i i0 i1 => ?_, by
    have : zN z1 = zN z := eN
    unfold zN at this
    omega⟩
  · rw [(e a fun s => hw (wA_md a j hj s)).1]; exact w1 a j hj hw
  · rw [(e a fun s => ha (wL_md a s)).2.1]; exact w2 a ha
  · rw [(e 3 (by unfold sMd; omega)).1, (e (4 + i.toNat) (by unfold sMd; omega)).2.1]; exact w3 i i0 i1
  · rw [(e 68 (by unfold sMd; omega)).1]; exact w4 i i0 i1
  · rw [(e 189 (by unfold sMd; omega)).1]; exact w5 i i0 i1
theorem gOI_md : ∀ k, k < 97 → gO k < 209 ∧ gI k < 209 := by decide
theorem gR_md (e : mdZ z I z1 I1) {k : Nat} (hk : k < 97) : gR z1 k = gR z k := by
  unfold gR
  rw [(e.2 (gO k) (by have := (gOI_md k hk).1; unfold sMd; omega)).1]
theorem gR_nmd (h : gw z) {k : Nat} (hk : k < 97) : ¬ sMd (gR z k) := by
  rcases (h.2.1 k hk).1 with w | w
  · rw [w]; have := (gOI_md k hk).2; unfold sMd; omega
  · unfold sMd; omega
theorem gw_md (h : gw z) (e : mdZ z I z1 I1) : gw z1 := by
  have n51 : ¬ sMd 51 := by unfold sMd; omega
  obtain ⟨h1, h2, h3, h4⟩ := id h
  refine ⟨by rw [(e.2 51 n51).1, e.1]; exact h1, fun k hk => ?_, fun k k' hk hk' hn => ?_, fun k i hk hi => ?_⟩
  · rw [gR_md e hk, (e.2 _ (gR_nmd h hk)).2.1, e.1]; exact h2 k hk
  · rw [gR_md e hk, gR_md e hk']; exact h3 k k' hk hk' hn
  · rw [gR_md e hk, (e.2 51 n51).1]; exact h4 k i hk hi
theorem smV_md (h : smV z I) (e : mdZ z I z1 I1) : smV z1 I1 := by
  have n51 : ¬ sMd 51 := by unfold sMd; omega
  have n52 : ¬ sMd 52 := by unfold sMd; omega
  unfold smV at h ⊢
  rw [(e.2 51 n51).1]
  rcases h with ⟨h1, h2⟩ | ⟨h1, h2, h3, h4, ⟨len, h5, h6⟩, h7⟩
  · exact Or.inl ⟨h1, by rw [(e.2 52 n52).2.1]; exact h2⟩
  · have nn : ∀ i : Nat, ¬ sMd (z.1 51 2 + i) := fun i => by unfold sMd; omega
    have n0 : ¬ sMd (z.1 51 2) := nn 0
    refine Or.inr ⟨h1, by rw [e.1]; exact h2, ?_, by rw [(e.2 _ n0).2.1]; exact h4, ⟨len, h5, fun i hi => ?_⟩, fun i hi => ?_⟩
    · unfold isRws at h3 ⊢
      rw [(e.2 _ n0).1, (e.2 _ n0).2.1]; exact h3
    · rw [(e.2 (z.1 51 2 + 1 + i) (by unfold sMd; omega)).2.1]; exact h6 i hi
    · rw [(e.2 (z.1 51 2 + 1 + i) (by unfold sMd; omega)).2.2]; exact h7 i hi
theorem wI_md (h : wI D T nt n L K B tp rf sh mb z I) (e : mdZ z I z1 I1) : wI D T nt n L K B tp rf sh mb z1 I1 := by
  obtain ⟨⟨hB, y2, e3, alt⟩, y, hT, hZ, hK, hw0, hR⟩ := h
  have hg := hB.2.1
  have hz1 : wz z1 := wz_md hB.1.1 e
  have hg1 := gw_md hg e
  have lt : ∀ a, a < 209 → z1.1 a = z.1 a ∧ z1.2.1 a = z.2.1 a ∧ I1 a = I a := fun a ha => e.2 a (by unfold sMd; omega)
  have fx : ∀ a, a < 209 → I1 a = I a := fun a ha => (lt a ha).2.2
  have zc : ∀ a, a < 209 → z1.1 a = z.1 a := fun a ha => (lt a ha).1
  have row : ∀ t j, t < 16 → j < 6 → gG z1 t j = gG z t j ∧ z1.2.1 (gG z t j) = z.2.1 (gG z t j) ∧ I1 (gG z t j) = I (gG z t j) := by
    intro t j ht hj
    have kt : 1 + 6 * t + j < 97 := by omega
    have q := e.2 _ (gR_nmd hg kt)
    exact ⟨gR_md e kt, q.2.1, q.2.2⟩
  have ob : ∀ t, t < 16 → I1 (73 + 7 * t) = I (73 + 7 * t) := fun t ht => fx _ (by omega)
  have V1 := smV_md hw0.2.2.2.2.2.1 e
  have W1 : wB B tp mb z1 I1 := wB_fr hw0 V1 (by rw [zc 1 (by decide)]) fun x h1 h2 => fx x (by omega)
  have hO : mvO I1 := by
    have := hB.1.2.2.2.2.2.2.2.2.2.2
    unfold mvO at this ⊢
    rw [fx 54 (by decide), fx 58 (by decide), fx 59 (by decide), fx 60 (by decide)]
    exact this
  have ok1 : okR (I1 (z1.1 63 2)) := by
    have q : ¬ sMd (z.1 63 2) := gR_nmd hg (k := 0) (by decide)
    rw [zc 63 (by decide), (e.2 _ q).2.2]
    exact hB.2.2.2.2.2.2.1
  have S1 : shOk D sh I1 := by
    have hs := hB.1.2.1
    have hsh : sh = 11 ∨ sh = 20 := shOk_sh hs
    refine shOk_fr hs ?_ ?_ ?_ ?_ ?_ <;> (rcases hsh with e | e <;> (rw [e]; exact fx _ (by decide)))
  have E1 : bsE D sh mb T nt n L z1 I1 := bsE_fr3 hB hz1 hg1 S1 (fun x h1 h2 => fx x (by omega)) hO (zc 1 (by decide)) (zc 53 (by decide)) (zc 66 (by decide)) (fun t j ht hj => row t j ht (by omega)) ok1 (fx 67 (by decide)) (fx 69 (by decide)) fun t ht j _ _ => by rw [ob t ht]
  have f185 : I1 185 = I 185 := fx 185 (by decide)
  refine ⟨⟨E1, by rw [zc 185 (by decide)]; exact y2, by rw [f185]; exact e3, ?_⟩, by rw [zc 198 (by decide)]; exact y, fun t ht => by rw [(row t 4 ht (by decide)).1, (row t 4 ht (by decide)).2.2]; exact hT t ht, hZ, fun i i0 i1 => ?_, W1, rwZ_fr hR E1 (zc 198 (by decide)) (fun x hx => ?_) row ob⟩
  · rw [f185]
    rcases alt with w | ⟨w1, w2⟩
    · exact Or.inl w
    · refine Or.inr ⟨w1, ?_⟩
      unfold pmK at w2 ⊢
      rw [f185, fx 190 (by decide), fx 191 (by decide)]
      rcases w2 with w2 | ⟨q, q1, q2, q3, q4, q5⟩
      · exact Or.inl w2
      · exact Or.inr ⟨q, q1, q2, q3, q4, fun t h1 h2 => by rw [ob t (by omega)]; exact q5 t h1 h2⟩
  · rw [fx (4 + i.toNat) (by omega)]
    exact hK i i0 i1
  · simp at hx
    exact fx x (by omega)
end WMD
