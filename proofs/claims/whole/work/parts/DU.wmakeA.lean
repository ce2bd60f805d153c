/-! the class's constructor: what it lays -/
theorem ch_rx {X : cm_H} {a : Nat} {f : Int → Nat} {i : Int} {v : Nat} : ch_r (ch_x X a f) a i v = ch_x X a (fun j => if j = i then v else f j) := by
  show ((X.1, (fun b => if b = a then (fun j => if j = i then v else (if a = a then f else X.2.1 a) j) else (if b = a then f else X.2.1 b)), X.2.2) : cm_H) = (X.1, (fun b => if b = a then (fun j => if j = i then v else f j) else X.2.1 b), X.2.2)
  have : (fun b => if b = a then (fun j => if j = i then v else (if a = a then f else X.2.1 a) j) else (if b = a then f else X.2.1 b)) = (fun b => if b = a then (fun j => if j = i then v else f j) else X.2.1 b) := by
    funext b
    by_cases q : b = a
    · rw [if_pos q, if_pos q, if_pos rfl]
    · rw [if_neg q, if_neg q, if_neg q]
  rw [this]
def wkN : List mkE := [.inl (23, 6, 6), .inl (20, 816, 816), .inl (20, 816, 816), .inl (20, 816, 816), .inl (20, 816, 816), .inl (20, 816, 816), .inl (20, 816, 816)]
def wkK : List mkE := wkN ++ [.inr (.inl (3, 0, 4)), .inr (.inl (3, 1, 5)), .inr (.inl (3, 2, 6)), .inr (.inl (3, 3, 7)), .inr (.inl (3, 4, 8)), .inr (.inl (3, 5, 9))]
theorem kept_mk {h : cm_H} (hn : ch_n h = 3) : ch_x (ch_news (ch_new h 23 6 (Int.toNat 6)) 816 (Int.toNat 816) (Int.toNat 6)) (ch_n h) (fun j => if 0 ≤ j ∧ j < 6 then ch_n h + 1 + j.toNat else 0) = mkF wkK h := by
  rw [hn]
  unfold wkK
  rw [mkF_a]
  have eX : ch_news (ch_new h 23 6 (Int.toNat 6)) 816 (Int.toNat 816) (Int.toNat 6) = mkF wkN h := rfl
  rw [eX]
  have r3 : ∀ j, ch_R (mkF wkN h) 3 j = 0 := fun j => by
    rw [lkR_ok (x := ch_R h 3 j) wkN h none rfl, hn]
    rfl
  generalize mkF wkN h = X at r3
  show ch_x X 3 _ = ch_r (ch_r (ch_r (ch_r (ch_r (ch_x X 3 (fun j => if j = 0 then 4 else ch_R X 3 j)) 3 1 5) 3 2 6) 3 3 7) 3 4 8) 3 5 9
  rw [ch_rx, ch_rx, ch_rx, ch_rx, ch_rx]
  have : (fun j : Int => if 0 ≤ j ∧ j < 6 then 3 + 1 + j.toNat else 0) = (fun j => if j = 5 then 9 else if j = 4 then 8 else if j = 3 then 7 else if j = 2 then 6 else if j = 1 then 5 else if j = 0 then 4 else ch_R X 3 j) := by
    funext j
    by_cases q : 0 ≤ j ∧ j < 6
    · rw [if_pos q]
      have : j = 0 ∨ j = 1 ∨ j = 2 ∨ j = 3 ∨ j = 4 ∨ j = 5 := by omega
      rcases this with w | w | w | w | w | w <;> subst w <;> rfl
    · rw [if_neg q, if_neg (by omega), if_neg (by omega), if_neg (by omega), if_neg (by omega), if_neg (by omega), if_neg (by omega), r3]
  rw [this]
def wk1 : List mkE := [.inl (21, 400, 400), .inr (.inl (1, 0, 2))] ++ (wkK ++ [.inr (.inl (1, 2, 3)), .inl (20, 816, 816), .inr (.inl (1, 3, 10)), .inl (9, 0, 8)])
def wk2 : List mkE := [.inr (.inl (1, 4, 11)), .inl (9, 0, 8)]
def wp0 : List mkE := [.inr (.inl (1, 5, 20)), .inr (.inl (1, 6, 11)), .inl (3, 0, 12)]
def wp1 : List mkE := wp0 ++ (evMembers 29 30 ++ [.inr (.inl (1, 7, 29)), .inl (3, 0, 12)])
def wp2 : List mkE := wp1 ++ (evMembers 39 40 ++ [.inr (.inl (1, 8, 39)), .inl (7, 0, 9)])
def wp3 : List mkE := wp2 ++ (evReader 49 50 2 ++ [.inr (.inl (1, 9, 49)), .inl (10, 0, 7)])
def wp4 : List mkE := wp3 ++ (evSum 51 52 49 ++ [.inr (.inl (1, 10, 51)), .inl (4, 0, 12)])
def wp5 : List mkE := wp4 ++ (evMover 53 54 ++ [.inr (.inl (1, 11, 53)), .inl (1, 0, 4)])
def wp6 : List mkE := wp5 ++ (evEchelon 63 64 ++ [.inr (.inl (1, 12, 63)), .inl (0, 0, 9)])
def wp7 : List mkE := wp6 ++ (evBases 66 67 53 63 ++ [.inr (.inl (1, 13, 66)), .inl (6, 0, 14)])
def wp8 : List mkE := wp7 ++ (evSearch 185 186 66 63 ++ [.inr (.inl (1, 14, 185)), .inl (8, 0, 16)])
def wp9 : List mkE := wp8 ++ (evRewr 198 199 66 185 ++ [.inr (.inl (1, 15, 198))])
abbrev wz1 (h : cm_H) : cm_Z := (mkF (evShape 2 11 12) (mkF wk1 h)).2
abbrev wz2 (h : cm_H) (J : cm_I) : cm_Z := (mkF (evShape 3 20 21) (mkF wk2 (J, wz1 h))).2
section WKC
variable {I : cm_I} {R : Nat → Int → Nat} {L : Nat → Int} {Tk : Nat → Nat} {c s : Nat}
set_option maxRecDepth 100000 in
theorem shG_1 : shG 2 11 12 (mkF (evShape1 2 11 12) (mkF wk1 (I, R, L, Tk, 2, c, s))).2 := ⟨⟨rfl, rfl, rfl, rfl, rfl⟩, fun J => ⟨rfl, rfl, rfl, rfl, rfl, rfl⟩⟩
set_option maxRecDepth 100000 in
theorem shG_2 (J : cm_I) : shG 3 20 21 (mkF (evShape1 3 20 21) (mkF wk2 (J, wz1 (I, R, L, Tk, 2, c, s)))).2 := ⟨⟨rfl, rfl, rfl, rfl, rfl⟩, fun J => ⟨rfl, rfl, rfl, rfl, rfl, rfl⟩⟩
set_option maxRecDepth 100000 in
theorem shH_1 : (mkF (evShape1 2 11 12) (mkF wk1 (I, R, L, Tk, 2, c, s))).1 12 = (fun _ => 0) ∧ (mkF (evShape1 2 11 12) (mkF wk1 (I, R, L, Tk, 2, c, s))).1 (12 + 1) = (fun _ => 0) ∧ (mkF (evShape1 2 11 12) (mkF wk1 (I, R, L, Tk, 2, c, s))).1 11 0 = 2 := ⟨rfl, rfl, rfl⟩
set_option maxRecDepth 100000 in
theorem shH_2 (J : cm_I) : (mkF (evShape1 3 20 21) (mkF wk2 (J, wz1 (I, R, L, Tk, 2, c, s)))).1 21 = (fun _ => 0) ∧ (mkF (evShape1 3 20 21) (mkF wk2 (J, wz1 (I, R, L, Tk, 2, c, s)))).1 (21 + 1) = (fun _ => 0) ∧ (mkF (evShape1 3 20 21) (mkF wk2 (J, wz1 (I, R, L, Tk, 2, c, s)))).1 20 0 = 3 := ⟨rfl, rfl, rfl⟩
set_option maxRecDepth 100000 in
set_option maxHeartbeats 4000000 in
theorem r3_Works {d : Nat} {Q : cm_Q} (H : ∀ J1 J2 : cm_I, (∀ c', c' ≠ 11 → c' ≠ 12 → c' ≠ 12 + 1 → c' ≠ 12 + 6 → c' ≠ 12 + 7 → J1 c' = (mkF (evShape 2 11 12) (mkF wk1 (I, R, L, Tk, 2, c, s))).1 c') → shC 2 11 12 J1 → (∀ c', c' ≠ 20 → c' ≠ 21 → c' ≠ 21 + 1 → c' ≠ 21 + 6 → c' ≠ 21 + 7 → J2 c' = (mkF (evShape 3 20 21) (mkF wk2 (J1, wz1 (I, R, L, Tk, 2, c, s)))).1 c') → shC 3 20 21 J2 → cI (d + 10) m_Members_grow [vR 3 29] (mkF wp9 (J2, wz2 (I, R, L, Tk, 2, c, s) J1)) fun _ h42 => cU (d + 10) m_Works_startAgain [vR 11 1] h42 fun h44 => Q none h44) : cm_call (d + 11) m_Works_init [vR 11 1] (I, R, L, Tk, 2, c, s) Q := by
  refine r_Works_init (by decide) ?_
  intro h1 e1 h2 e2
  refine ⟨⟨by decide, by decide, by decide, by decide⟩, ?_⟩
  intro h4 e4 h5 e5 h6 e6 h7 e7 h8 e8
  have n2 : ch_n h2 = 3 := by rw [e2, e1]; rfl
  rw [kept_mk n2] at e4
  have n4 : ch_n h4 = 10 := by rw [e4, (mkC_ok _ _).1, n2]; rfl
  have n5 : ch_n h5 = 10 := by rw [e5]; exact n4
  have n7 : ch_n h7 = 11 := by rw [e7, e6]; show ch_n h5 + 1 = 11; rw [n5]
  have n8 : ch_n h8 = 12 := by rw [e8]; show ch_n h7 + 1 = 12; rw [n7]
  have E8 : h8 = mkF wk1 (I, R, L, Tk, 2, c, s) := by
    unfold wk1
    refine mkF_c e1 (mkF_c e2 ?_)
    show h8 = mkF (wkK ++ _) h2
    rw [mkF_a, ← e4]
    exact mkF_c (by rw [e5, n2]; rfl) (mkF_c e6 (mkF_c (by rw [e7, n5]; rfl) (mkF_c e8 rfl)))
  rw [n7]
  clear e1 e2 e4 e5 e6 e7 e8
  subst E8
  refine r3_Shape (d := d + 8) (Or.inl rfl) (by decide) (by decide) n8 shG_1 shH_1 (fun J1 j1 s1 => ⟨rfl, ?_⟩)
  intro h10 e10 h11 e11
  have n10 : ch_n h10 = 20 := by rw [e10]; rfl
  have n11 : ch_n h11 = 21 := by rw [e11]; show ch_n h10 + 1 = 21; rw [n10]
  have E11 : h11 = mkF wk2 (J1, wz1 (I, R, L, Tk, 2, c, s)) := mkF_c e10 (mkF_c e11 rfl)
  rw [n10]
  clear e10 e11
  subst E11
  refine r3_Shape (d := d + 8) (Or.inr rfl) (by decide) (by decide) n11 (shG_2 J1) (shH_2 J1) (fun J2 j2 s2 => ⟨rfl, ?_⟩)
  have H := H J1 J2 j1 s1 j2 s2
  intro h13 e13 h14 e14 h15 e15
  have r13 : ch_R h13 1 4 = 11 := by rw [e13]; rfl
  have n14 : ch_n h14 = 29 := by rw [e14, e13]; rfl
  have E15 : h15 = mkF wp0 (J2, wz2 (I, R, L, Tk, 2, c, s) J1) := mkF_c e13 (mkF_c (by rw [e14, r13]; rfl) (mkF_c e15 rfl))
  have n15 : ch_n h15 = 30 := by rw [e15]; show ch_n h14 + 1 = 30; rw [n14]
  rw [n14]
  clear e13 e14 e15
  refine r3_Members (d := d + 9) (a := 29) (n := 30) (by decide) n15 ⟨rfl, ?_⟩
  intro h17 e17 h18 e18
  have n17 : ch_n h17 = 39 := by rw [e17]; show ch_n (mkF (evMembers 29 30) h15) = _; rw [(mkC_ok _ _).1, n15]; decide
  have n18 : ch_n h18 = 40 := by rw [e18]; show ch_n h17 + 1 = _; rw [n17]
  have E18 : h18 = mkF wp1 (J2, wz2 (I, R, L, Tk, 2, c, s) J1) := by
    unfold wp1
    rw [mkF_a, ← E15, mkF_a]
    exact mkF_c e17 (mkF_c e18 rfl)
  rw [n17]
  clear e17 e18 E15
  refine r3_Members (d := d + 9) (a := 39) (n := 40) (by decide) n18 ⟨rfl, ?_⟩
  intro h20 e20 h21 e21
  have n20 : ch_n h20 = 49 := by rw [e20]; show ch_n (mkF (evMembers 39 40) h18) = _; rw [(mkC_ok _ _).1, n18]; decide
  have n21 : ch_n h21 = 50 := by rw [e21]; show ch_n h20 + 1 = _; rw [n20]
  have E21 : h21 = mkF wp2 (J2, wz2 (I, R, L, Tk, 2, c, s) J1) := by
    unfold wp2
    rw [mkF_a, ← E18, mkF_a]
    exact mkF_c e20 (mkF_c e21 rfl)
  rw [n20]
  clear e20 e21 E18
  have r21_0 : ch_R h21 1 0 = 2 := by rw [E21]; rfl
  rw [r21_0]
  refine r3_Reader (d := d + 9) (a := 49) (n := 50) (by decide) n21 ⟨rfl, ?_⟩
  intro h23 e23 h24 e24
  have n23 : ch_n h23 = 51 := by rw [e23]; show ch_n (mkF (evReader 49 50 2) h21) = _; rw [(mkC_ok _ _).1, n21]; decide
  have n24 : ch_n h24 = 52 := by rw [e24]; show ch_n h23 + 1 = _; rw [n23]
  have E24 : h24 = mkF wp3 (J2, wz2 (I, R, L, Tk, 2, c, s) J1) := by
    unfold wp3
    rw [mkF_a, ← E21, mkF_a]
    exact mkF_c e23 (mkF_c e24 rfl)
  rw [n23]
  clear e23 e24 E21
  have r24_9 : ch_R h24 1 9 = 49 := by rw [E24]; rfl
  rw [r24_9]
  refine r3_Sum (d := d + 9) (a := 51) (n := 52) (by decide) n24 ⟨rfl, ?_⟩
  intro h26 e26 h27 e27
  have n26 : ch_n h26 = 53 := by rw [e26]; show ch_n (mkF (evSum 51 52 49) h24) = _; rw [(mkC_ok _ _).1, n24]; decide
  have n27 : ch_n h27 = 54 := by rw [e27]; show ch_n h26 + 1 = _; rw [n26]
  have E27 : h27 = mkF wp4 (J2, wz2 (I, R, L, Tk, 2, c, s) J1) := by
    unfold wp4
    rw [mkF_a, ← E24, mkF_a]
    exact mkF_c e26 (mkF_c e27 rfl)
  rw [n26]
  clear e26 e27 E24
  refine r3_Mover (d := d + 8) (a := 53) (n := 54) (by decide) n27 ⟨rfl, ?_⟩
  intro h29 e29 h30 e30
  have n29 : ch_n h29 = 63 := by rw [e29]; show ch_n (mkF (evMover 53 54) h27) = _; rw [(mkC_ok _ _).1, n27]; decide
  have n30 : ch_n h30 = 64 := by rw [e30]; show ch_n h29 + 1 = _; rw [n29]
  have E30 : h30 = mkF wp5 (J2, wz2 (I, R, L, Tk, 2, c, s) J1) := by
    unfold wp5
    rw [mkF_a, ← E27, mkF_a]
    exact mkF_c e29 (mkF_c e30 rfl)
  rw [n29]
  clear e29 e30 E27
  refine r3_Echelon (d := d + 9) (a := 63) (n := 64) (by decide) n30 ⟨rfl, ?_⟩
  intro h32 e32 h33 e33
  have n32 : ch_n h32 = 66 := by rw [e32]; show ch_n (mkF (evEchelon 63 64) h30) = _; rw [(mkC_ok _ _).1, n30]; decide
  have n33 : ch_n h33 = 67 := by rw [e33]; show ch_n h32 + 1 = _; rw [n32]
  have E33 : h33 = mkF wp6 (J2, wz2 (I, R, L, Tk, 2, c, s) J1) := by
    unfold wp6
    rw [mkF_a, ← E30, mkF_a]
    exact mkF_c e32 (mkF_c e33 rfl)
  rw [n32]
  clear e32 e33 E30
  have r33_11 : ch_R h33 1 11 = 53 := by rw [E33]; rfl
  have r33_12 : ch_R h33 1 12 = 63 := by rw [E33]; rfl
  rw [r33_11, r33_12]
  refine r3_Bases (d := d + 8) (a := 66) (n := 67) (by decide) (by decide) n33 ⟨rfl, ?_⟩
  intro h35 e35 h36 e36
  have n35 : ch_n h35 = 185 := by rw [e35]; show ch_n (mkF (evBases 66 67 53 63) h33) = _; rw [(mkC_ok _ _).1, n33]; decide
  have n36 : ch_n h36 = 186 := by rw [e36]; show ch_n h35 + 1 = _; rw [n35]
  have E36 : h36 = mkF wp7 (J2, wz2 (I, R, L, Tk, 2, c, s) J1) := by
    unfold wp7
    rw [mkF_a, ← E33, mkF_a]
    exact mkF_c e35 (mkF_c e36 rfl)
  rw [n35]
  clear e35 e36 E33
  have r36_13 : ch_R h36 1 13 = 66 := by rw [E36]; rfl
  have r36_12 : ch_R h36 1 12 = 63 := by rw [E36]; rfl
  rw [r36_13, r36_12]
  refine r3_Search (d := d + 8) (a := 185) (n := 186) (by decide) (by decide) n36 ⟨rfl, ?_⟩
  intro h38 e38 h39 e39
  have n38 : ch_n h38 = 198 := by rw [e38]; show ch_n (mkF (evSearch 185 186 66 63) h36) = _; rw [(mkC_ok _ _).1, n36]; decide
  have n39 : ch_n h39 = 199 := by rw [e39]; show ch_n h38 + 1 = _; rw [n38]
  have E39 : h39 = mkF wp8 (J2, wz2 (I, R, L, Tk, 2, c, s) J1) := by
    unfold wp8
    rw [mkF_a, ← E36, mkF_a]
    exact mkF_c e38 (mkF_c e39 rfl)
  rw [n38]
  clear e38 e39 E36
  have r39_13 : ch_R h39 1 13 = 66 := by rw [E39]; rfl
  have r39_14 : ch_R h39 1 14 = 185 := by rw [E39]; rfl
  rw [r39_13, r39_14]
  refine r3_Rewriter (d := d + 8) (a := 198) (n := 199) (by decide) n39 ⟨rfl, ?_⟩
  intro h41 e41
  have E41 : h41 = mkF wp9 (J2, wz2 (I, R, L, Tk, 2, c, s) J1) := by
    unfold wp9
    rw [mkF_a, ← E39, mkF_a]
    exact mkF_c e41 rfl
  have r41 : ch_R h41 1 7 = 29 := by rw [E41]; rfl
  rw [r41, E41]
  exact H
end WKC
