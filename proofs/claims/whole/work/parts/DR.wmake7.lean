/-! a Shape is made -/
def shC (D : Int) (a n : Nat) (I : cm_I) : Prop := I a 0 = D ∧ I a 1 = mFrom D 16 ∧ (∀ s, 0 ≤ s → s ≤ 18 → I n s = fF D s) ∧ (∀ t, 0 ≤ t → t ≤ 16 → I (n + 1) t = mFrom D t) ∧ ∀ s p, 0 ≤ s → s ≤ 15 → fF D s ≤ p → p < fF D (s + 1) → I (n + 6) p = s ∧ I (n + 7) p = fF D (s + 1) - fF D s
def shB (D : Int) (n : Nat) (I : cm_I) (m : Int) : Prop := ∀ s p, 0 ≤ s → s ≤ 15 → fF D s ≤ p → p < fF D (s + 1) → p < m → I (n + 6) p = s ∧ I (n + 7) p = fF D (s + 1) - fF D s
section SHM
variable {d : Nat} {Q : cm_Q} {D : Int} {a n : Nat} {z : cm_Z}
theorem sh_49 (hD : D = 2 ∨ D = 3) (ha : 0 < a) (an : a < n) (r2 : z.1 a 2 = n) (l2 : z.2.1 n = 19) {z3 : Option cm_V} : ∀ (k : Nat) (x : Int) (I : cm_I), x + k = 18 → 0 ≤ x → (∀ s, 0 ≤ s → s ≤ x → I n s = fF D s) → (∀ J : cm_I, (∀ c, c ≠ n → J c = I c) → (∀ s, 0 ≤ s → s ≤ 18 → J n s = fF D s) → cw d cd_Shape_init Q 90 [some (vR 9 a), some (vI D), some (vI 0), z3] [] (J, z)) → cw d cd_Shape_init Q 49 [some (vR 9 a), some (vI D), some (vI x), z3] [] (I, z) := by
  intro k
  induction k with
  | zero =>
    intro x I e x0 h K
    refine r_Shape_init_49 ha ⟨fun _ => K I (fun _ _ => rfl) (fun s s0 s1 => h s s0 (by omega)), fun q => absurd q (by omega)⟩
  | succ k ih =>
    intro x I e x0 h K
    have e2 : ch_R (I, z) a 2 = n := r2
    have el : ch_L (I, z) n = 19 := l2
    have b1 := fF_bd hD (s := x) x0 (by omega)
    have hv : ch_I (I, z) n x = fF D x := h x x0 (Int.le_refl _)
    have sc := fF_succ hD (s := x) x0 (by omega)
    have go : ∀ (v : Int), v = fF D (x + 1) → ∀ h6 : cm_H, h6 = ch_u (I, z) n (x + 1) v → cw d cd_Shape_init Q 49 [some (vR 9 a), some (vI D), some (vI (x + 1)), z3] [] h6 := by
      intro v ev h6 e6
      rw [e6]
      refine ih (x + 1) (iu I n (x + 1) v) (by omega) (by omega) (fun s s0 s1 => ?_) (fun J hJ hJ2 => K J (fun c hc => (hJ c hc).trans (if_neg hc)) hJ2)
      show (if n = n then (fun j => if j = x + 1 then v else I n j) else I n) s = _
      rw [if_pos rfl]
      show (if s = x + 1 then v else I n s) = _
      by_cases q : s = x + 1
      · rw [if_pos q, q, ev]
      · rw [if_neg q]; exact h s s0 (by omega)
    refine r_Shape_init_49 ha ⟨fun q => absurd q (by omega), fun q => ⟨⟨by omega, by omega⟩, by rw [e2]; omega, by rw [e2, el]; omega, fun q3 => ⟨?_, by rw [e2, el]; omega, ?_⟩, fun q3 => ⟨?_, by rw [e2, el]; omega, ?_⟩⟩⟩
    · rw [e2, hv]; exact ⟨by omega, by omega⟩
    · rw [e2, hv]
      refine go _ ?_
      rw [sc, if_pos (by omega)]
    · rw [e2, hv]; exact ⟨by omega, by omega⟩
    · rw [e2, hv]
      refine go _ ?_
      rw [sc, if_neg (by omega)]
abbrev evSh2 (D : Int) (a n : Nat) : List mkE := [.inl (20, fF D 16, (fF D 16).toNat), .inr (.inl (a, 4, n + 6)), .inl (20, fF D 16, (fF D 16).toNat), .inr (.inl (a, 5, n + 7))]
theorem sh_90 (hD : D = 2 ∨ D = 3) (ha : 0 < a) (an : a < n) (hn : zN z = n + 6) (r2 : z.1 a 2 = n) (l2 : z.2.1 n = 19) (r3 : z.1 a 3 = n + 1) (l3 : z.2.1 (n + 1) = 17) {z1 z3 : Option cm_V} : ∀ (k : Nat) (x : Int) (I : cm_I), x + k = 16 → 0 ≤ x → (∀ s, 0 ≤ s → s ≤ 18 → I n s = fF D s) → (∀ t, 0 ≤ t → t ≤ x → I (n + 1) t = mFrom D t) → (∀ J : cm_I, (∀ c, c ≠ a → c ≠ n + 1 → J c = I c) → (∀ j, j ≠ 1 → J a j = I a j) → J a 1 = mFrom D 16 → (∀ t, 0 ≤ t → t ≤ 16 → J (n + 1) t = mFrom D t) → cw d cd_Shape_init Q 164 [some (vR 9 a), z1, some (vI 0), z3] [] (mkF (evSh2 D a n) (J, z))) → cw d cd_Shape_init Q 90 [some (vR 9 a), z1, some (vI x), z3] [] (I, z) := by
  intro k
  induction k with
  | zero =>
    intro x I e x0 hf hs K
    have ex : x = 16 := by omega
    subst ex
    have e3 : ch_R (I, z) a 3 = n + 1 := r3
    have el : ch_L (I, z) (n + 1) = 17 := l3
    have hv : ch_I (I, z) (n + 1) 16 = mFrom D 16 := hs 16 (by omega) (by omega)
    have b := fF_bd hD (s := 16) (by omega) (by omega)
    refine r_Shape_init_90 ha ⟨fun _ => ⟨by rw [e3]; omega, by rw [e3, el]; omega, ?_⟩, fun q => absurd q (by omega)⟩
    intro h3 q3
    rw [e3, hv] at q3
    have q3 : h3 = (iu I a 1 (mFrom D 16), z) := q3
    subst q3
    have e2 : ch_R (iu I a 1 (mFrom D 16), z) a 2 = n := r2
    have el2 : ch_L (iu I a 1 (mFrom D 16), z) n = 19 := l2
    have hv2 : ch_I (iu I a 1 (mFrom D 16), z) n 16 = fF D 16 := by
      show (if n = a then _ else I n) 16 = _
      rw [if_neg (by omega)]
      exact hf 16 (by omega) (by omega)
    have nn : ch_n (iu I a 1 (mFrom D 16), z) = n + 6 := hn
    refine ⟨by rw [e2]; omega, by rw [e2, el2]; omega, by rw [e2, hv2]; omega, ?_⟩
    rw [e2, hv2, nn]
    intro h7 q7 h8 q8
    have n8 : ch_n h8 = n + 7 := by rw [q8, q7]; show ch_n (iu I a 1 (mFrom D 16), z) + 1 = _; rw [nn]
    have r8 : ch_R h8 a 2 = n := by
      rw [q8, q7]
      show (if a = a then (fun j => if j = (4 : Int) then n + 6 else (if a = zN z then (fun _ => 0) else z.1 a) j) else _) 2 = n
      rw [if_pos rfl]
      show (if (2 : Int) = 4 then _ else (if a = zN z then (fun _ => 0) else z.1 a) 2) = n
      rw [if_neg (by decide), if_neg (by omega)]
      exact r2
    have l8 : ch_L h8 n = 19 := by
      rw [q8, q7]
      show (if n = zN z then _ else z.2.1 n) = 19
      rw [if_neg (by omega)]
      exact l2
    have v8 : ch_I h8 n 16 = fF D 16 := by
      rw [q8, q7]
      show (if n = zN z then (fun _ => 0) else (iu I a 1 (mFrom D 16)) n) 16 = _
      rw [if_neg (by omega)]
      exact hv2
    rw [r8, v8, n8]
    refine ⟨by omega, by rw [l8]; omega, by omega, ?_⟩
    intro h12 q12 h13 q13
    have E : h13 = mkF (evSh2 D a n) (iu I a 1 (mFrom D 16), z) := mkF_c q7 (mkF_c q8 (mkF_c q12 (mkF_c q13 rfl)))
    rw [E]
    refine K (iu I a 1 (mFrom D 16)) (fun c c1 c2 => if_neg c1) (fun j hj => ?_) ?_ (fun t t0 t1 => ?_)
    · show (if a = a then (fun i => if i = 1 then mFrom D 16 else I a i) else I a) j = _
      rw [if_pos rfl]
      exact if_neg hj
    · show (if a = a then (fun i => if i = 1 then mFrom D 16 else I a i) else I a) 1 = _
      rw [if_pos rfl]
      exact if_pos rfl
    · show (if n + 1 = a then _ else I (n + 1)) t = _
      rw [if_neg (by omega)]
      exact hs t t0 t1
  | succ k ih =>
    intro x I e x0 hf hs K
    have e3 : ch_R (I, z) a 3 = n + 1 := r3
    have el : ch_L (I, z) (n + 1) = 17 := l3
    have e2 : ch_R (I, z) a 2 = n := r2
    have el2 : ch_L (I, z) n = 19 := l2
    have hv : ch_I (I, z) (n + 1) x = mFrom D x := hs x x0 (Int.le_refl _)
    have hv2 : ch_I (I, z) n (x + 1) = mMany D x := by rw [← fF_many]; exact hf (x + 1) (by omega) (by omega)
    have sc := mFrom_succ hD (t := x) x0 (by omega)
    have fb := from_bds hD (t := x) x0 (by omega)
    refine r_Shape_init_90 ha ⟨fun q => absurd q (by omega), fun q => ⟨⟨by omega, by omega⟩, by rw [e3]; omega, by rw [e3, el]; omega, by rw [e2]; omega, by rw [e2, el2]; omega, ?_, by rw [e3, el]; omega, ?_⟩⟩
    · rw [e3, e2, hv, hv2, sc]
      exact ⟨by omega, by omega⟩
    · rw [e3, e2, hv, hv2, sc]
      intro h6 e6
      rw [e6]
      refine ih (x + 1) (iu I (n + 1) (x + 1) (mFrom D (x + 1))) (by omega) (by omega) (fun s s0 s1 => ?_) (fun t t0 t1 => ?_) (fun J j1 j2 j3 j4 => K J (fun c c1 c2 => (j1 c c1 c2).trans (if_neg c2)) (fun j hj => (j2 j hj).trans ?_) j3 j4)
      · show (if n = n + 1 then _ else I n) s = _
        rw [if_neg (by omega)]
        exact hf s s0 s1
      · show (if n + 1 = n + 1 then (fun j => if j = x + 1 then mFrom D (x + 1) else I (n + 1) j) else I (n + 1)) t = _
        rw [if_pos rfl]
        show (if t = x + 1 then mFrom D (x + 1) else I (n + 1) t) = _
        by_cases w : t = x + 1
        · rw [if_pos w, w]
        · rw [if_neg w]; exact hs t t0 (by omega)
      · show (if a = n + 1 then _ else I a) j = _
        rw [if_neg (by omega)]
theorem sh_177 (hD : D = 2 ∨ D = 3) (ha : 0 < a) (an : a < n) (r2 : z.1 a 2 = n) (l2 : z.2.1 n = 19) (r4 : z.1 a 4 = n + 6) (l4 : z.2.1 (n + 6) = fF D 16) (r5 : z.1 a 5 = n + 7) (l5 : z.2.1 (n + 7) = fF D 16) {z1 : Option cm_V} {s : Int} (s0 : 0 ≤ s) (s1 : s ≤ 15) : ∀ (k : Nat) (p : Int) (I : cm_I), p + k = fF D (s + 1) → fF D s ≤ p → (∀ s, 0 ≤ s → s ≤ 18 → I n s = fF D s) → shB D n I p → (∀ J : cm_I, (∀ c, c ≠ n + 6 → c ≠ n + 7 → J c = I c) → shB D n J (fF D (s + 1)) → cw d cd_Shape_init Q 164 [some (vR 9 a), z1, some (vI (s + 1)), some (vI (fF D (s + 1)))] [] (J, z)) → cw d cd_Shape_init Q 177 [some (vR 9 a), z1, some (vI s), some (vI p)] [] (I, z) := by
  have b1 := fF_bd hD (s := s) s0 (by omega)
  have b2 := fF_bd hD (s := s + 1) (by omega) (by omega)
  have b3 := fF_mono hD (s := s + 1) (t := 16) (by omega) (by omega) (by omega)
  intro k
  induction k with
  | zero =>
    intro p I e hp hf hB K
    have e2 : ch_R (I, z) a 2 = n := r2
    have el : ch_L (I, z) n = 19 := l2
    have hv : ch_I (I, z) n (s + 1) = fF D (s + 1) := hf (s + 1) (by omega) (by omega)
    have ep : p = fF D (s + 1) := by omega
    rw [ep] at hB ⊢
    refine r_Shape_init_177 ha ⟨⟨by omega, by omega⟩, by rw [e2]; omega, by rw [e2, el]; omega, fun _ => K I (fun _ _ _ => rfl) hB, fun q => ?_⟩
    rw [e2, hv] at q
    omega
  | succ k ih =>
    intro p I e hp hf hB K
    have e2 : ch_R (I, z) a 2 = n := r2
    have el : ch_L (I, z) n = 19 := l2
    have hv : ch_I (I, z) n (s + 1) = fF D (s + 1) := hf (s + 1) (by omega) (by omega)
    have e4 : ch_R (I, z) a 4 = n + 6 := r4
    have el4 : ch_L (I, z) (n + 6) = fF D 16 := l4
    refine r_Shape_init_177 ha ⟨⟨by omega, by omega⟩, by rw [e2]; omega, by rw [e2, el]; omega, fun q => ?_, fun q => ⟨by rw [e4]; omega, by rw [e4, el4]; omega, ?_⟩⟩
    · rw [e2, hv] at q
      omega
    · rw [e4]
      intro h6 e6
      have e6 : h6 = (iu I (n + 6) p s, z) := e6
      subst e6
      have e2' : ch_R (iu I (n + 6) p s, z) a 2 = n := r2
      have el' : ch_L (iu I (n + 6) p s, z) n = 19 := l2
      have hv1 : ch_I (iu I (n + 6) p s, z) n (s + 1) = fF D (s + 1) := by
        show (if n = n + 6 then _ else I n) (s + 1) = _
        rw [if_neg (by omega)]; exact hv
      have hv0 : ch_I (iu I (n + 6) p s, z) n s = fF D s := by
        show (if n = n + 6 then _ else I n) s = _
        rw [if_neg (by omega)]; exact hf s s0 (by omega)
      have e5 : ch_R (iu I (n + 6) p s, z) a 5 = n + 7 := r5
      have el5 : ch_L (iu I (n + 6) p s, z) (n + 7) = fF D 16 := l5
      refine ⟨by rw [e2']; omega, by rw [e2', el']; omega, by rw [e2', el']; omega, by rw [e2', hv1, hv0]; exact ⟨by omega, by omega⟩, by rw [e5]; omega, by rw [e5, el5]; omega, ?_⟩
      rw [e2', hv1, hv0, e5]
      intro h13 e13
      refine ⟨⟨by omega, by omega⟩, ?_⟩
      have e13 : h13 = (iu (iu I (n + 6) p s) (n + 7) p (fF D (s + 1) - fF D s), z) := e13
      rw [e13]
      have v6 : ∀ j, iu (iu I (n + 6) p s) (n + 7) p (fF D (s + 1) - fF D s) (n + 6) j = if j = p then s else I (n + 6) j := fun j => by
        show (if n + 6 = n + 7 then _ else (if n + 6 = n + 6 then (fun j => if j = p then s else I (n + 6) j) else I (n + 6))) j = _
        rw [if_neg (by omega), if_pos rfl]
      have v7 : ∀ j, iu (iu I (n + 6) p s) (n + 7) p (fF D (s + 1) - fF D s) (n + 7) j = if j = p then fF D (s + 1) - fF D s else I (n + 7) j := fun j => by
        show (if n + 7 = n + 7 then (fun j => if j = p then fF D (s + 1) - fF D s else (if n + 7 = n + 6 then _ else I (n + 7)) j) else _) j = _
        rw [if_pos rfl]
        show (if j = p then _ else (if n + 7 = n + 6 then _ else I (n + 7)) j) = _
        rw [if_neg (show ¬ n + 7 = n + 6 by omega)]
      have vo : ∀ c, c ≠ n + 6 → c ≠ n + 7 → iu (iu I (n + 6) p s) (n + 7) p (fF D (s + 1) - fF D s) c = I c := fun c c1 c2 => by
        show (if c = n + 7 then _ else if c = n + 6 then _ else I c) = I c
        rw [if_neg c2, if_neg c1]
      refine ih (p + 1) _ (by omega) (by omega) (fun s' a1 a2 => by rw [vo n (by omega) (by omega)]; exact hf s' a1 a2) ?_ (fun J j1 j2 => K J (fun c c1 c2 => (j1 c c1 c2).trans (vo c c1 c2)) j2)
      intro s' p' a0 a1 a2 a3 a4
      rw [v6, v7]
      by_cases w : p' = p
      · rw [if_pos w, if_pos w]
        have : s' = s := by
          rcases Int.lt_trichotomy s' s with u | u | u
          · have := fF_mono hD (s := s' + 1) (t := s) (by omega) (by omega) (by omega)
            omega
          · exact u
          · have := fF_mono hD (s := s + 1) (t := s') (by omega) (by omega) (by omega)
            omega
        rw [this]
        exact ⟨rfl, rfl⟩
      · rw [if_neg w, if_neg w]
        exact hB s' p' a0 a1 a2 a3 (by omega)
theorem sh_164 (hD : D = 2 ∨ D = 3) (ha : 0 < a) (an : a < n) (r2 : z.1 a 2 = n) (l2 : z.2.1 n = 19) (r4 : z.1 a 4 = n + 6) (l4 : z.2.1 (n + 6) = fF D 16) (r5 : z.1 a 5 = n + 7) (l5 : z.2.1 (n + 7) = fF D 16) {z1 : Option cm_V} : ∀ (k : Nat) (s : Int) (z3 : Option cm_V) (I : cm_I), s + k = 16 → 0 ≤ s → (∀ s, 0 ≤ s → s ≤ 18 → I n s = fF D s) → shB D n I (fF D s) → (∀ J : cm_I, (∀ c, c ≠ n + 6 → c ≠ n + 7 → J c = I c) → shB D n J (fF D 16) → Q none (J, z)) → cw d cd_Shape_init Q 164 [some (vR 9 a), z1, some (vI s), z3] [] (I, z) := by
  intro k
  induction k with
  | zero =>
    intro s z3 I e s0 hf hB K
    have es : s = 16 := by omega
    rw [es] at hB
    exact r_Shape_init_164 ha ⟨fun _ => K I (fun _ _ _ => rfl) hB, fun q => absurd q (by omega)⟩
  | succ k ih =>
    intro s z3 I e s0 hf hB K
    have e2 : ch_R (I, z) a 2 = n := r2
    have el : ch_L (I, z) n = 19 := l2
    have hv : ch_I (I, z) n s = fF D s := hf s s0 (by omega)
    have m := fF_mono hD (s := s) (t := s + 1) s0 (by omega) (by omega)
    refine r_Shape_init_164 ha ⟨fun q => absurd q (by omega), fun q => ⟨by rw [e2]; omega, by rw [e2, el]; omega, ?_⟩⟩
    rw [e2, hv]
    refine sh_177 hD ha an r2 l2 r4 l4 r5 l5 s0 (by omega) (fF D (s + 1) - fF D s).toNat (fF D s) I (by omega) (Int.le_refl _) hf hB (fun J j1 j2 => ?_)
    refine ih (s + 1) _ J (by omega) (by omega) (fun s' a1 a2 => by rw [j1 n (by omega) (by omega)]; exact hf s' a1 a2) j2 (fun J2 k1 k2 => K J2 (fun c c1 c2 => (k1 c c1 c2).trans (j1 c c1 c2)) k2)
end SHM
