section FRM2
variable {S : Nat → Prop}
theorem cm_rep_mem : ∀ (n : Nat) (L : cm_L) (v : cm_V), some v ∈ cm_rep n L → some v ∈ L
  | 0, _, _, e => by simp [cm_rep] at e
  | n + 1, [], v, e => by
    rcases List.mem_cons.mp (show some v ∈ none :: cm_rep n [] from e) with e | e
    · exact absurd e (by simp)
    · exact absurd (cm_rep_mem n [] v e) (by simp)
  | n + 1, x :: t, v, e => by
    rcases List.mem_cons.mp (show some v ∈ x :: cm_rep n t from e) with e | e
    · rw [e]; exact List.mem_cons_self ..
    · exact List.mem_cons_of_mem _ (cm_rep_mem n t v e)
theorem cm_ent_mem : ∀ (as : List cm_V) (v : cm_V), some v ∈ cm_ent as → v ∈ as
  | [], _, e => by simp [cm_ent] at e
  | .inl w :: t, v, e => by
    rcases List.mem_cons.mp (show some v ∈ some (.inl w) :: cm_ent t from e) with e | e
    · rw [Option.some.inj e]; exact List.mem_cons_self ..
    · exact List.mem_cons_of_mem _ (cm_ent_mem t v e)
  | .inr (.inl w) :: t, v, e => by
    rcases List.mem_cons.mp (show some v ∈ some (.inr (.inl w)) :: cm_ent t from e) with e | e
    · rw [Option.some.inj e]; exact List.mem_cons_self ..
    · exact List.mem_cons_of_mem _ (cm_ent_mem t v e)
  | .inr (.inr w) :: t, v, e => by
    rcases List.mem_cons.mp (show some v ∈ some (.inr (.inr w)) :: none :: cm_ent t from e) with e | e
    · rw [Option.some.inj e]; exact List.mem_cons_self ..
    · rcases List.mem_cons.mp e with e | e
      · exact absurd e (by simp)
      · exact List.mem_cons_of_mem _ (cm_ent_mem t v e)
theorem fl_entry {as : List cm_V} (b : fk S as) (m : Nat) : fl S (cm_entry m as) := fun v hv => b v (cm_ent_mem as v (cm_rep_mem m _ v hv))
def fQ (S : Nat → Prop) (Q : cm_Q) (h : cm_H) : cm_Q := fun r g => Q r g ∧ (∀ v, r = some v → fv S v) ∧ fh S g ∧ fq S h g
theorem fm_wN {E : cm_E} (hE : cm_niceE E) (hb : fmE S E) {C : cm_C} {Q : cm_Q} : ∀ (n pc : Nat) (ls : cm_L) (st : List cm_V) (h : cm_H), fl S ls → fk S st → fh S h → cm_wN E C Q n pc ls st h → cm_wN E C (fQ S Q h) n pc ls st h
  | 0, _, _, _, _, _, _, _, q => q.elim
  | n + 1, pc, ls, st, h, a, b, f, q => by
    unfold cm_wN cm_step at q ⊢
    cases hp : C pc with
    | none => rw [hp] at q; exact q.elim
    | some w =>
      rw [hp] at q
      have q1 := fm_ins hE hb w.1 w.2 ls st a b f f.1 f.1 _ _ q
      rcases nice_ins hE w.1 w.2 ls st h _ _ q1 with ⟨p, l, s, g, ⟨k, a1, b1, f1, e1⟩, _, e⟩ | ⟨r, g, k, _, e⟩
      · refine e _ _ ?_
        obtain ⟨r, g2, ⟨u1, u2, u3, u4⟩, _, u⟩ := cm_wN_leaf hE n p l s g (fm_wN hE hb n p l s g a1 b1 f1 k)
        exact u _ ⟨u1, u2, u3, fq_tr e1 u4⟩
      · exact e _ _ k
theorem fmE_call : ∀ d, fmE S (cm_call d)
  | 0 => fun _ _ _ _ _ _ q => q.elim
  | d + 1 => fun k as h Q b f q => by
    unfold cm_call at q ⊢
    cases hb : (Nat.ble (cm_ent as).length (cm_maxL k) && cm_lok (cm_LI k) 0 (cm_ent as) && cm_rk (cm_ow k) as) with
    | false => rw [hb] at q; exact q.elim
    | true =>
      rw [hb] at q
      obtain ⟨q1, n, q2⟩ := q
      exact ⟨q1, n, fm_wN (cm_call_nice d) (fmE_call d) n 0 _ [] h (fl_entry b _) fk_n f q2⟩
end FRM2
/-- the cells of the reference -/
def sMd (a : Nat) : Prop := 209 ≤ a ∧ a ≤ 247
def fz (z : cm_Z) : Prop := 248 ≤ zN z ∧ ∀ a j, ¬ sMd a → ¬ sMd (z.1 a j)
theorem fz_h {z : cm_Z} {I : cm_I} (h : fz z) : fh sMd (I, z) := ⟨by unfold sMd; omega, h.2, fun a ha => by
  have : zN z ≤ a := ha
  have := h.1
  unfold sMd; omega⟩
/-- the reference's cells are as they were -/
def mdE (z : cm_Z) (I : cm_I) (z1 : cm_Z) (I1 : cm_I) : Prop := ∀ a, 209 ≤ a → a ≤ 247 → I1 a = I a ∧ z1.1 a = z.1 a ∧ z1.2.1 a = z.2.1 a
theorem mz_md {z z1 : cm_Z} {I I1 : cm_I} (h : mz z) (e : mdE z I z1 I1) : mz z1 := by
  refine ⟨fun j hj => ?_, fun a h1 h2 => ?_⟩
  · rw [(e 209 (by decide) (by decide)).2.1]; exact h.1 j hj
  · rw [(e a (by omega) h2).2.2]; exact h.2 a h1 h2
section FRM3
variable {d k : Nat} {as : List cm_V} {z : cm_Z} {I : cm_I}
theorem zcI_md {P : Int → cm_I → cm_Z → Prop} (h : zcI d k as z I P) (hf : fz z) (ha : fk sMd as) (hN : ∀ v I1 z1, P v I1 z1 → 248 ≤ zN z1) : zcI d k as z I fun v I1 z1 => P v I1 z1 ∧ fz z1 ∧ mdE z I z1 I1 := by
  refine cm_call_mono (fmE_call d k as (I, z) _ ha (fz_h hf) h) fun r g ⟨⟨v, I1, z1, e1, e2, p⟩, _, f, q⟩ => ⟨v, I1, z1, e1, e2, p, ?_, fun a h1 h2 => ?_⟩
  · rw [e2] at f
    exact ⟨hN v I1 z1 p, f.2.1⟩
  · rw [e2] at q
    have := q a ⟨h1, h2⟩
    exact ⟨this.1, this.2.1, this.2.2.1⟩
theorem mI_md {P : Int → cm_I → Prop} (h : mI d k as z I P) (hf : fz z) (ha : fk sMd as) : zcI d k as z I fun v I1 z1 => z1 = z ∧ P v I1 ∧ mdE z I z I1 := by
  refine zcI_mono (zcI_md (mI_zc h) hf ha fun v I1 z1 p => by rw [p.1]; exact hf.1) fun v I1 z1 ⟨⟨e, p⟩, _, m⟩ => ⟨e, p, ?_⟩
  rw [e] at m
  exact m
end FRM3
