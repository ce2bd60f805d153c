/-! the class's constructor: the state behind it -/
def wkAll : List mkE := wk1 ++ (evShape 2 11 12 ++ (wk2 ++ (evShape 3 20 21 ++ wp9)))
def wkS : List Nat := [11, 12, 13, 18, 19, 20, 21, 22, 27, 28]
theorem mkF_i2 {l : List mkE} {J : cm_I} {X : cm_H} {c : Nat} (e : J c = X.1 c) : (mkF l (J, X.2)).1 c = (mkF l X).1 c := mkF_i l J X.1 X.2 e
section WKF
variable {h : cm_H} {J1 J2 : cm_I}
set_option maxRecDepth 100000 in
theorem wk_z : (mkF wp9 (J2, wz2 h J1)).2 = (mkF wkAll h).2 := by
  have e1 : (mkF wp9 (J2, wz2 h J1)).2 = (mkF wp9 (mkF (evShape 3 20 21) (mkF wk2 (J1, wz1 h)))).2 := mkF_z wp9 J2 (mkF (evShape 3 20 21) (mkF wk2 (J1, wz1 h))).1 (mkF (evShape 3 20 21) (mkF wk2 (J1, wz1 h))).2
  rw [e1, ← mkF_a, ← mkF_a]
  have e2 : (mkF (wk2 ++ (evShape 3 20 21 ++ wp9)) (J1, wz1 h)).2 = (mkF (wk2 ++ (evShape 3 20 21 ++ wp9)) (mkF (evShape 2 11 12) (mkF wk1 h))).2 := mkF_z _ J1 (mkF (evShape 2 11 12) (mkF wk1 h)).1 (mkF (evShape 2 11 12) (mkF wk1 h)).2
  rw [e2, ← mkF_a, ← mkF_a]
  rfl
set_option maxRecDepth 100000 in
theorem wk_i (j1 : ∀ c', c' ≠ 11 → c' ≠ 12 → c' ≠ 12 + 1 → c' ≠ 12 + 6 → c' ≠ 12 + 7 → J1 c' = (mkF (evShape 2 11 12) (mkF wk1 h)).1 c') (j2 : ∀ c', c' ≠ 20 → c' ≠ 21 → c' ≠ 21 + 1 → c' ≠ 21 + 6 → c' ≠ 21 + 7 → J2 c' = (mkF (evShape 3 20 21) (mkF wk2 (J1, wz1 h))).1 c') {c : Nat} (hc : c ∉ wkS) : (mkF wp9 (J2, wz2 h J1)).1 c = (mkF wkAll h).1 c := by
  simp only [wkS, List.mem_cons, List.not_mem_nil, or_false, not_or] at hc
  obtain ⟨c1, c2, c3, c4, c5, c6, c7, c8, c9, c10⟩ := hc
  have q2 := j2 c c6 c7 c8 c9 c10
  have q1 := j1 c c1 c2 c3 c4 c5
  generalize hX : mkF (evShape 3 20 21) (mkF wk2 (J1, wz1 h)) = X at q2
  have e1 : (mkF wp9 (J2, wz2 h J1)).1 c = (mkF wp9 X).1 c := by
    show (mkF wp9 (J2, (mkF (evShape 3 20 21) (mkF wk2 (J1, wz1 h))).2)).1 c = _
    rw [hX]
    exact mkF_i2 q2
  rw [e1, ← hX, ← mkF_a, ← mkF_a]
  generalize hY : mkF (evShape 2 11 12) (mkF wk1 h) = Y at q1
  have e2 : (mkF (wk2 ++ (evShape 3 20 21 ++ wp9)) (J1, wz1 h)).1 c = (mkF (wk2 ++ (evShape 3 20 21 ++ wp9)) Y).1 c := by
    show (mkF (wk2 ++ (evShape 3 20 21 ++ wp9)) (J1, (mkF (evShape 2 11 12) (mkF wk1 h)).2)).1 c = _
    rw [hY]
    exact mkF_i2 q1
  rw [e2, ← hY, ← mkF_a, ← mkF_a]
  rfl
set_option maxRecDepth 100000 in
theorem shOk_of {D : Int} {a : Nat} {I J : cm_I} (hD : (D = 2 ∧ a = 11) ∨ (D = 3 ∧ a = 20)) (hC : shC D a (a + 1) I) (e : ∀ c, c = a ∨ c = a + 1 ∨ c = a + 2 ∨ c = a + 7 ∨ c = a + 8 → J c = I c) : shOk D a J := by
  obtain ⟨c1, c2, c3, c4, c5⟩ := hC
  refine ⟨hD, by rw [e a (by omega)]; exact c1, by rw [e a (by omega)]; exact c2, fun s s0 s1 => by rw [e (a + 1) (by omega)]; exact c3 s s0 s1, fun t t0 t1 => by rw [e (a + 2) (by omega)]; exact c4 t t0 t1, fun s p a0 a1 a2 a3 => ?_⟩
  rw [e (a + 7) (by omega), e (a + 8) (by omega)]
  exact c5 s p a0 a1 a2 a3
set_option maxRecDepth 100000 in
theorem wk_m3 : ([20, 21, 22, 27, 28] : List Nat).all (fun c => wp9.all (mkM c)) = true ∧ ([11, 12, 13, 18, 19] : List Nat).all (fun c => wp9.all (mkM c)) = true ∧ ([11, 12, 13, 18, 19] : List Nat).all (fun c => (wk2 ++ evShape1 3 20 21).all (mkM c)) = true := by decide +kernel
end WKF
def kwA : List Nat := [100, 102, 103, 104, 105, 109, 110, 111, 112, 113, 114, 115, 1102, 1103, 1104, 1105, 1106, 1107, 2002, 2003, 2004, 2005, 2006, 2007, 2903, 2904, 2905, 2906, 2907, 2908, 2909, 2910, 2911, 3903, 3904, 3905, 3906, 3907, 3908, 3909, 3910, 3911, 4900, 4901, 5100, 5302, 5304, 5305, 5306, 5307, 5308, 5309, 5311, 6303, 6600, 6601, 6604, 6605, 6606, 6607, 6608, 18500, 18501, 18508, 18509, 18510, 18511, 18512, 18513, 19800, 19801, 19805, 19806, 19808, 19811, 19812, 19813, 19814, 19815]
def kwL : List Nat := [2, 3, 10, 12, 13, 18, 19, 21, 22, 27, 28, 30, 31, 32, 33, 34, 35, 36, 37, 38, 40, 41, 42, 43, 44, 45, 46, 47, 48, 50, 54, 55, 56, 57, 58, 59, 60, 65, 67, 68, 69, 70, 186, 187, 188, 189, 190, 191, 199, 200, 201, 202, 203, 204]
theorem wA_k : ∀ k, wA k ≠ 0 → k ∈ kwA := by
  intro k h
  unfold wA at h
  split at h
  all_goals first | decide | exact absurd rfl h
theorem wL_k : ∀ k, wL k ≠ 0 → k ∈ kwL := by
  intro k h
  unfold wL at h
  split at h
  all_goals first | decide | exact absurd rfl h
set_option maxRecDepth 100000 in
theorem wk_A : kwA.all (fun k => decide (lkR (k / 100) ((k % 100 : Nat) : Int) 2 wkAll none = some (wA k))) = true := by decide +kernel
set_option maxRecDepth 100000 in
theorem wk_L : kwL.all (fun k => decide (lkL k 2 wkAll none = some (wL k))) = true := by decide +kernel
set_option maxRecDepth 100000 in
theorem wk_3 : (List.range 6).all (fun i => decide (lkR 3 (i : Int) 2 wkAll none = some (4 + i)) && decide (lkL (4 + i) 2 wkAll none = some 816)) = true := by decide +kernel
set_option maxRecDepth 100000 in
theorem wk_68 : (List.range 16).all (fun i => decide (lkR 68 (i : Int) 2 wkAll none = some (73 + 7 * i))) = true := by decide +kernel
set_option maxRecDepth 100000 in
theorem wk_189 : (List.range 3).all (fun i => decide (lkR 189 (i : Int) 2 wkAll none = some (192 + 2 * i))) = true := by decide +kernel
set_option maxRecDepth 100000 in
theorem wk_g : (List.range 97).all (fun k => decide (lkR (gO k) (gL k : Int) 2 wkAll none = some (gI k)) && decide (lkL (gI k) 2 wkAll none = some 0)) = true := by decide +kernel
set_option maxRecDepth 100000 in
theorem gI_inj : ∀ k k' : Fin 97, gI k.val = gI k'.val → k = k' := by decide +kernel
set_option maxRecDepth 100000 in
theorem wk_v : wkAll.all (fun e => match e with | .inr (.inl (_, _, v)) => Nat.blt v 209 | _ => true) = true := by decide +kernel
set_option maxRecDepth 100000 in
theorem wk_o : (lkR 1 6 2 wkAll none = some 11 ∧ lkR 1 7 2 wkAll none = some 29 ∧ lkR 1 8 2 wkAll none = some 39 ∧ lkR 51 2 2 wkAll none = some 52 ∧ lkL 52 2 wkAll none = some 0 ∧ lkR 63 2 2 wkAll none = some 64) ∧ (lkI 29 0 2 wkAll none = some 2 ∧ lkI 29 1 2 wkAll none = some 0 ∧ lkI 1 1 2 wkAll none = none) ∧ mkC wkAll = 207 ∧ (List.range 16).all (fun t => decide (lkI (73 + 7 * t) 0 2 wkAll none = some (t : Int))) = true := by decide +kernel
def wk0 : List Nat := [2, 4, 5, 6, 7, 8, 9, 10, 30, 31, 38, 40, 41, 48, 50, 54, 58, 59, 60, 64, 69] ++ ((List.range 16).map (fun t => 74 + 7 * t) ++ (List.range 16).map (fun t => 78 + 7 * t))
set_option maxRecDepth 100000 in
theorem wk_0 : wk0.all (fun c => cr0 c 2 wkAll && decide (c ∉ wkS)) = true := by decide +kernel
set_option maxRecDepth 100000 in
theorem wk_sl : mkSl wkAll ≤ 40000 := by decide +kernel
