/-! THE CLASS IS MADE: the state, without its list -/
def wkQ (I : cm_I) (Tk : Nat → Nat) (c s : Nat) (Z : cm_Z) (J0 : cm_I) : Prop := (∀ a j v, lkR a j 2 wkAll none = some v → Z.1 a j = v) ∧ (∀ a v, lkL a 2 wkAll none = some v → Z.2.1 a = v) ∧ (∀ a j, a ∉ wkS → J0 a j = (lkI a j 2 wkAll none).getD (I a j)) ∧ (∀ a, a ∈ wk0 → J0 a = fun _ => 0) ∧ zN Z = 209 ∧ zC Z = c + 207 ∧ zS Z ≤ s + 40000 ∧ Z.2.2.1 1 = Tk 1 ∧ (∀ a j, Z.1 a j < 209) ∧ shOk 2 11 J0 ∧ shOk 3 20 J0
theorem wkQ_z {h : cm_H} (hn : ch_n h = 2) (hR : ∀ a j, ch_R h a j = 0) {Z : cm_Z} (hZ : Z = (mkF wkAll h).2) : (∀ a j v, lkR a j 2 wkAll none = some v → Z.1 a j = v) ∧ (∀ a v, lkL a 2 wkAll none = some v → Z.2.1 a = v) ∧ zN Z = 209 ∧ zC Z = ch_c h + 207 ∧ zS Z ≤ ch_s h + 40000 ∧ Z.2.2.1 1 = ch_T h 1 ∧ (∀ a j, Z.1 a j < 209) := by
  have oC := wk_o.2.2.1
  have sl := wk_sl
  have wv := wk_v
  generalize wkAll = l at hZ oC sl wv ⊢
  obtain ⟨mn, mc, ms⟩ := mkC_ok l h
  subst hZ
  refine ⟨fun a j v e => ?_, fun a v e => ?_, ?_, ?_, ?_, ?_, ?_⟩
  · have := lkR_ok (a := a) (j := j) (x := ch_R h a j) l h none rfl
    rw [hn, e] at this
    exact this
  · have := lkL_ok (a := a) (x := ch_L h a) l h none rfl
    rw [hn, e] at this
    exact this
  · exact mn.trans (by rw [oC, hn])
  · exact mc.trans (by rw [oC])
  · show ch_s (mkF l h) ≤ _
    rw [ms]; omega
  · exact mkF_T l h (by rw [hn]; decide)
  · refine mkF_v (P := fun v => v < 209) (by decide) l h (fun a j => by show ch_R h a j < 209; rw [hR]; decide) (fun o s v m => ?_)
    have := List.all_eq_true.mp wv _ m
    exact Nat.le_of_ble_eq_true this
theorem wkQ_i {h : cm_H} (hn : ch_n h = 2) {J0 : cm_I} (eI : ∀ c', c' ∉ wkS → J0 c' = (mkF wkAll h).1 c') : (∀ a j, a ∉ wkS → J0 a j = (lkI a j 2 wkAll none).getD (ch_I h a j)) ∧ (∀ a, a ∈ wk0 → J0 a = fun _ => 0) := by
  have w0 := wk_0
  generalize wkAll = l at eI w0 ⊢
  refine ⟨fun a j ha => ?_, fun a ha => ?_⟩
  · rw [eI a ha]
    have := lkI_ok (a := a) (j := j) (x := ch_I h a j) l h none rfl
    rw [hn] at this
    exact this
  · have q := List.all_eq_true.mp w0 a ha
    simp only [Bool.and_eq_true, decide_eq_true_eq] at q
    rw [eI a q.2]
    exact cr0_ok l h (by rw [hn]; exact q.1)
set_option maxRecDepth 100000 in
theorem wz2_n {I : cm_I} {R : Nat → Int → Nat} {L : Nat → Int} {Tk : Nat → Nat} {c s : Nat} {J1 : cm_I} : (wz2 (I, R, L, Tk, 2, c, s) J1).2.2.2.1 = 29 ∧ (wz1 (I, R, L, Tk, 2, c, s)).2.2.2.1 = 20 := ⟨rfl, rfl⟩
theorem wkQ_s {h : cm_H} {J1 J2 : cm_I} {z1 z2 : cm_Z} (n1 : z1.2.2.2.1 = 20) (n2 : z2.2.2.2.1 = 29) (s1 : shC 2 11 12 J1) (j2 : ∀ c', c' ≠ 20 → c' ≠ 21 → c' ≠ 21 + 1 → c' ≠ 21 + 6 → c' ≠ 21 + 7 → J2 c' = (mkF (evShape 3 20 21) (mkF wk2 (J1, z1))).1 c') (s2 : shC 3 20 21 J2) {J0 : cm_I} (hJ : J0 = (mkF wp9 (J2, z2)).1) : shOk 2 11 J0 ∧ shOk 3 20 J0 := by
  have m3 := wk_m3
  generalize wp9 = l9 at hJ m3
  have e3 : evShape 3 20 21 = evShape1 3 20 21 ++ evSh2 3 20 21 := rfl
  have x2 : ∀ c', (evSh2 3 20 21).all (mkM c') = true := fun c' => rfl
  rw [e3] at j2
  generalize evSh2 3 20 21 = l2 at j2 x2
  generalize evShape1 3 20 21 = l1 at j2 m3
  generalize wk2 = l0 at j2 m3
  have k2 : ∀ c' ∈ ([20, 21, 22, 27, 28] : List Nat), J0 c' = J2 c' := fun c' m => by
    rw [hJ]
    exact mkF_k l9 _ (by show c' < z2.2.2.2.1; rw [n2]; simp at m; omega) (List.all_eq_true.mp m3.1 c' m)
  have k1 : ∀ c' ∈ ([11, 12, 13, 18, 19] : List Nat), J0 c' = J1 c' := fun c' m => by
    have m' := m
    simp at m'
    rw [hJ]
    refine (mkF_k l9 (J2, z2) (by show c' < z2.2.2.2.1; rw [n2]; omega) (List.all_eq_true.mp m3.2.1 c' m)).trans ?_
    refine (j2 c' (by omega) (by omega) (by omega) (by omega) (by omega)).trans ?_
    have a3 := List.all_eq_true.mp m3.2.2 c' m
    rw [mkF_a, ← mkF_a l0 l1]
    have lt : c' < ch_n ((J1, z1) : cm_H) := by show c' < z1.2.2.2.1; rw [n1]; omega
    refine (mkF_k l2 _ ?_ (x2 c')).trans (mkF_k (l0 ++ l1) (J1, z1) lt a3)
    rw [(mkC_ok _ _).1]
    omega
  exact ⟨shOk_of (Or.inl ⟨rfl, rfl⟩) s1 (fun c' w => k1 c' (by simp; omega)), shOk_of (Or.inr ⟨rfl, rfl⟩) s2 (fun c' w => k2 c' (by simp; omega))⟩
